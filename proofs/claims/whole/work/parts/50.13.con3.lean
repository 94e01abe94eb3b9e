theorem dX8_linkAllows_0 : decode cX8_linkAllows 0 = .ok (.aload_n 0, 1) := by decide +kernel
theorem dX8_linkAllows_1 : decode cX8_linkAllows 1 = .ok (.getfield 12, 3) := by decide +kernel
theorem dX8_linkAllows_4 : decode cX8_linkAllows 4 = .ok (.getfield 66, 3) := by decide +kernel
theorem dX8_linkAllows_7 : decode cX8_linkAllows 7 = .ok (.astore_n 2, 1) := by decide +kernel
theorem dX8_linkAllows_8 : decode cX8_linkAllows 8 = .ok (.aload_n 2, 1) := by decide +kernel
theorem dX8_linkAllows_9 : decode cX8_linkAllows 9 = .ok (.getfield 159, 3) := by decide +kernel
theorem dX8_linkAllows_12 : decode cX8_linkAllows 12 = .ok (.iload_n 1, 1) := by decide +kernel
theorem dX8_linkAllows_13 : decode cX8_linkAllows 13 = .ok (.iaload, 1) := by decide +kernel
theorem dX8_linkAllows_14 : decode cX8_linkAllows 14 = .ok (.iconst (-1), 1) := by decide +kernel
theorem dX8_linkAllows_15 : decode cX8_linkAllows 15 = .ok (.if_icmp .eq 28, 3) := by decide +kernel
theorem dX8_linkAllows_18 : decode cX8_linkAllows 18 = .ok (.aload_n 0, 1) := by decide +kernel
theorem dX8_linkAllows_19 : decode cX8_linkAllows 19 = .ok (.getfield 26, 3) := by decide +kernel
theorem dX8_linkAllows_22 : decode cX8_linkAllows 22 = .ok (.iconst 2, 1) := by decide +kernel
theorem dX8_linkAllows_23 : decode cX8_linkAllows 23 = .ok (.iload_n 1, 1) := by decide +kernel
theorem dX8_linkAllows_24 : decode cX8_linkAllows 24 = .ok (.invokevirtual 155, 3) := by decide +kernel
theorem dX8_linkAllows_27 : decode cX8_linkAllows 27 = .ok (.aload_n 0, 1) := by decide +kernel
theorem dX8_linkAllows_28 : decode cX8_linkAllows 28 = .ok (.getfield 26, 3) := by decide +kernel
theorem dX8_linkAllows_31 : decode cX8_linkAllows 31 = .ok (.iconst 3, 1) := by decide +kernel
theorem dX8_linkAllows_32 : decode cX8_linkAllows 32 = .ok (.aload_n 2, 1) := by decide +kernel
theorem dX8_linkAllows_33 : decode cX8_linkAllows 33 = .ok (.getfield 159, 3) := by decide +kernel
theorem dX8_linkAllows_36 : decode cX8_linkAllows 36 = .ok (.iload_n 1, 1) := by decide +kernel
theorem dX8_linkAllows_37 : decode cX8_linkAllows 37 = .ok (.iaload, 1) := by decide +kernel
theorem dX8_linkAllows_38 : decode cX8_linkAllows 38 = .ok (.invokevirtual 394, 3) := by decide +kernel
theorem dX8_linkAllows_41 : decode cX8_linkAllows 41 = .ok (.iconst 0, 1) := by decide +kernel
theorem dX8_linkAllows_42 : decode cX8_linkAllows 42 = .ok (.ireturn, 1) := by decide +kernel
theorem dX8_linkAllows_43 : decode cX8_linkAllows 43 = .ok (.aload_n 0, 1) := by decide +kernel
theorem dX8_linkAllows_44 : decode cX8_linkAllows 44 = .ok (.getfield 44, 3) := by decide +kernel
theorem dX8_linkAllows_47 : decode cX8_linkAllows 47 = .ok (.iconst 3, 1) := by decide +kernel
theorem dX8_linkAllows_48 : decode cX8_linkAllows 48 = .ok (.aload_n 2, 1) := by decide +kernel
theorem dX8_linkAllows_49 : decode cX8_linkAllows 49 = .ok (.getfield 177, 3) := by decide +kernel
theorem dX8_linkAllows_52 : decode cX8_linkAllows 52 = .ok (.iload_n 1, 1) := by decide +kernel
theorem dX8_linkAllows_53 : decode cX8_linkAllows 53 = .ok (.iaload, 1) := by decide +kernel
theorem dX8_linkAllows_54 : decode cX8_linkAllows 54 = .ok (.iastore, 1) := by decide +kernel
theorem dX8_linkAllows_55 : decode cX8_linkAllows 55 = .ok (.iconst 0, 1) := by decide +kernel
theorem dX8_linkAllows_56 : decode cX8_linkAllows 56 = .ok (.istore_n 3, 1) := by decide +kernel
theorem dX8_linkAllows_57 : decode cX8_linkAllows 57 = .ok (.iload_n 3, 1) := by decide +kernel
theorem dX8_linkAllows_58 : decode cX8_linkAllows 58 = .ok (.aload_n 2, 1) := by decide +kernel
theorem dX8_linkAllows_59 : decode cX8_linkAllows 59 = .ok (.getfield 175, 3) := by decide +kernel
theorem dX8_linkAllows_62 : decode cX8_linkAllows 62 = .ok (.iload_n 1, 1) := by decide +kernel
theorem dX8_linkAllows_63 : decode cX8_linkAllows 63 = .ok (.iaload, 1) := by decide +kernel
theorem dX8_linkAllows_64 : decode cX8_linkAllows 64 = .ok (.if_icmp .ge 94, 3) := by decide +kernel
theorem dX8_linkAllows_67 : decode cX8_linkAllows 67 = .ok (.iload_n 1, 1) := by decide +kernel
theorem dX8_linkAllows_68 : decode cX8_linkAllows 68 = .ok (.iconst 4, 1) := by decide +kernel
theorem dX8_linkAllows_69 : decode cX8_linkAllows 69 = .ok (.imul, 1) := by decide +kernel
theorem dX8_linkAllows_70 : decode cX8_linkAllows 70 = .ok (.iload_n 3, 1) := by decide +kernel
theorem dX8_linkAllows_71 : decode cX8_linkAllows 71 = .ok (.iadd, 1) := by decide +kernel
theorem dX8_linkAllows_72 : decode cX8_linkAllows 72 = .ok (.istore 4, 2) := by decide +kernel
theorem dX8_linkAllows_74 : decode cX8_linkAllows 74 = .ok (.aload_n 2, 1) := by decide +kernel
theorem dX8_linkAllows_75 : decode cX8_linkAllows 75 = .ok (.getfield 189, 3) := by decide +kernel
theorem dX8_linkAllows_78 : decode cX8_linkAllows 78 = .ok (.iload 4, 2) := by decide +kernel
theorem dX8_linkAllows_80 : decode cX8_linkAllows 80 = .ok (.iaload, 1) := by decide +kernel
theorem dX8_linkAllows_81 : decode cX8_linkAllows 81 = .ok (.istore 5, 2) := by decide +kernel
theorem dX8_linkAllows_83 : decode cX8_linkAllows 83 = .ok (.iload 5, 2) := by decide +kernel
theorem dX8_linkAllows_85 : decode cX8_linkAllows 85 = .ok (.aload_n 2, 1) := by decide +kernel
theorem dX8_linkAllows_86 : decode cX8_linkAllows 86 = .ok (.getfield 190, 3) := by decide +kernel
theorem dX8_linkAllows_89 : decode cX8_linkAllows 89 = .ok (.iload 4, 2) := by decide +kernel
theorem dX8_linkAllows_91 : decode cX8_linkAllows 91 = .ok (.iaload, 1) := by decide +kernel
theorem dX8_linkAllows_92 : decode cX8_linkAllows 92 = .ok (.aload_n 2, 1) := by decide +kernel
theorem dX8_linkAllows_93 : decode cX8_linkAllows 93 = .ok (.getfield 191, 3) := by decide +kernel
theorem dX8_linkAllows_96 : decode cX8_linkAllows 96 = .ok (.iload 4, 2) := by decide +kernel
theorem dX8_linkAllows_98 : decode cX8_linkAllows 98 = .ok (.iaload, 1) := by decide +kernel
theorem dX8_linkAllows_99 : decode cX8_linkAllows 99 = .ok (.aload_n 0, 1) := by decide +kernel
theorem dX8_linkAllows_100 : decode cX8_linkAllows 100 = .ok (.getfield 44, 3) := by decide +kernel
theorem dX8_linkAllows_103 : decode cX8_linkAllows 103 = .ok (.iload 5, 2) := by decide +kernel
theorem dX8_linkAllows_105 : decode cX8_linkAllows 105 = .ok (.iaload, 1) := by decide +kernel
theorem dX8_linkAllows_106 : decode cX8_linkAllows 106 = .ok (.invokestatic 397, 3) := by decide +kernel
theorem dX8_linkAllows_109 : decode cX8_linkAllows 109 = .ok (.ifCond .ne 43, 3) := by decide +kernel
theorem dX8_linkAllows_112 : decode cX8_linkAllows 112 = .ok (.aload_n 0, 1) := by decide +kernel
theorem dX8_linkAllows_113 : decode cX8_linkAllows 113 = .ok (.getfield 26, 3) := by decide +kernel
theorem dX8_linkAllows_116 : decode cX8_linkAllows 116 = .ok (.iconst 4, 1) := by decide +kernel
theorem dX8_linkAllows_117 : decode cX8_linkAllows 117 = .ok (.iload_n 1, 1) := by decide +kernel
theorem dX8_linkAllows_118 : decode cX8_linkAllows 118 = .ok (.invokevirtual 155, 3) := by decide +kernel
theorem dX8_linkAllows_121 : decode cX8_linkAllows 121 = .ok (.aload_n 0, 1) := by decide +kernel
theorem dX8_linkAllows_122 : decode cX8_linkAllows 122 = .ok (.getfield 26, 3) := by decide +kernel
theorem dX8_linkAllows_125 : decode cX8_linkAllows 125 = .ok (.bipush 10, 2) := by decide +kernel
theorem dX8_linkAllows_127 : decode cX8_linkAllows 127 = .ok (.iload 5, 2) := by decide +kernel
theorem dX8_linkAllows_129 : decode cX8_linkAllows 129 = .ok (.iadd, 1) := by decide +kernel
theorem dX8_linkAllows_130 : decode cX8_linkAllows 130 = .ok (.iload_n 3, 1) := by decide +kernel
theorem dX8_linkAllows_131 : decode cX8_linkAllows 131 = .ok (.invokevirtual 394, 3) := by decide +kernel
theorem dX8_linkAllows_134 : decode cX8_linkAllows 134 = .ok (.aload_n 0, 1) := by decide +kernel
theorem dX8_linkAllows_135 : decode cX8_linkAllows 135 = .ok (.getfield 26, 3) := by decide +kernel
theorem dX8_linkAllows_138 : decode cX8_linkAllows 138 = .ok (.bipush 20, 2) := by decide +kernel
theorem dX8_linkAllows_140 : decode cX8_linkAllows 140 = .ok (.aload_n 0, 1) := by decide +kernel
theorem dX8_linkAllows_141 : decode cX8_linkAllows 141 = .ok (.getfield 44, 3) := by decide +kernel
theorem dX8_linkAllows_144 : decode cX8_linkAllows 144 = .ok (.iload 5, 2) := by decide +kernel
theorem dX8_linkAllows_146 : decode cX8_linkAllows 146 = .ok (.iaload, 1) := by decide +kernel
theorem dX8_linkAllows_147 : decode cX8_linkAllows 147 = .ok (.invokevirtual 394, 3) := by decide +kernel
theorem dX8_linkAllows_150 : decode cX8_linkAllows 150 = .ok (.iconst 0, 1) := by decide +kernel
theorem dX8_linkAllows_151 : decode cX8_linkAllows 151 = .ok (.ireturn, 1) := by decide +kernel
theorem dX8_linkAllows_152 : decode cX8_linkAllows 152 = .ok (.iinc 3 1, 3) := by decide +kernel
theorem dX8_linkAllows_155 : decode cX8_linkAllows 155 = .ok (.goto (-98), 3) := by decide +kernel
theorem dX8_linkAllows_158 : decode cX8_linkAllows 158 = .ok (.iconst 1, 1) := by decide +kernel
theorem dX8_linkAllows_159 : decode cX8_linkAllows 159 = .ok (.ireturn, 1) := by decide +kernel
set_option maxRecDepth 20000 in
theorem ggX8_linkAllows_X8_caveatHolds : GoodIn wsX8_linkAllows wsX8_caveatHolds := goodIn_r _ [27] (by decide +kernel) (by decide +kernel)
set_option maxRecDepth 20000 in
theorem gX8_linkAllows_X8_caveatHolds : GoodIn wsX8_linkAllows (va_wsS RX8 397 yX8_caveatHolds wsX8_caveatHolds) := goodIn_app (goodIn_of _ (by decide +kernel)) ggX8_linkAllows_X8_caveatHolds
set_option maxRecDepth 20000 in
theorem ggX8_linkAllows_X5_begin : GoodIn wsX8_linkAllows wsX5_begin := goodIn_ca (goodIn_r _ [15, 16, 17, 18, 19, 14, 20, 21, 22, 56, 57, 58] (by decide +kernel) (by decide +kernel)) (goodIn_sub (fun _ h => List.mem_cons_of_mem _ (List.mem_append_right _ h)) (by decide +kernel))
set_option maxRecDepth 20000 in
theorem gX8_linkAllows_X5_begin : GoodIn wsX8_linkAllows (wsV RX8 155 RX5 yX5_begin wsX5_begin) := goodIn_app (goodIn_of _ (by decide +kernel)) ggX8_linkAllows_X5_begin
set_option maxRecDepth 20000 in
theorem ggX8_linkAllows_X5_addCause : GoodIn wsX8_linkAllows wsX5_addCause := goodIn_ca (goodIn_r _ [20, 16, 21, 22, 56, 57, 58] (by decide +kernel) (by decide +kernel)) (goodIn_sub (fun _ h => List.mem_cons_of_mem _ (List.mem_append_right _ h)) (by decide +kernel))
set_option maxRecDepth 20000 in
theorem gX8_linkAllows_X5_addCause : GoodIn wsX8_linkAllows (wsV RX8 394 RX5 yX5_addCause wsX5_addCause) := goodIn_app (goodIn_of _ (by decide +kernel)) ggX8_linkAllows_X5_addCause
def rm_X8_linkAllows : Room := { frames := 3, cells := 0, slots := 0, locals := 60 }
set_option maxHeartbeats 4000000 in
set_option maxRecDepth 100000 in
theorem c_X8_linkAllows (l : Launch) {G : zG} {ad : Nat → Nat} {σ σ' : zs} {a1 : Int32} {r : Int32} (hf : f_X8_linkAllows σ a1 = some (r, σ')) : xMi l yX8_linkAllows wsX8_linkAllows rm_X8_linkAllows G ad σ [.ref (ad 0), .int a1] r σ' := by
  intro sz nb a g hs
  refine Met.ofW (cc := cX8_linkAllows) (maxL := 6) (ret := (some .boolean)) (by decide) rfl ?_
  intro p e s m args below meth c s₁ B hml hv
  obtain ⟨rfl, hsz, hv⟩ := hv
  have hx := B.exec
  have hb := B.bytes
  have hr := B.returns
  have hts := atoms_spec (ws := wsX8_linkAllows) B.pre
  have hown : s.vm.findClass RX8 = some m.cls := findClass_of_methodNamed B.named
  have hlocks := B.notSynchronized
  subst hsz
  have B := xB_start hs hv
  have hinRX6 : ∀ w ∈ wsX60, w ∈ wsX8_linkAllows := by decide +kernel
  have hinRX7 : ∀ w ∈ wsX70, w ∈ wsX8_linkAllows := by decide +kernel
  have hinRX8 : ∀ w ∈ wsX80, w ∈ wsX8_linkAllows := by decide +kernel
  have hl := lv_entry ([.ref (ad 0), .int a1]) (n := 6) (Nat.le_of_ble_eq_true rfl)
  rw [lg_entry_eq]
  generalize (lg_sl ([.ref (ad 0), .int a1]) ++ List.replicate (6 - (lg_sl ([.ref (ad 0), .int a1])).length) Slot.unset).toArray = ls at hl ⊢
  have hl : lv_has ls 6 [(0, .ref (ad 0)), (1, .int a1)] := hl
  generalize hAe : xA ad a s.heap.size = A at B ⊢
  have L57 : ∀ (n : Nat) (σ : zs) (v1 : Int32) (v3 : Int32) (H : Heap) (locs : List Loc) (ls : Array Slot), zlp2 (f_X8_linkAllows_57) n σ v1 v3 = some (r, σ') → xB A s G ad σ H locs → lv_has ls 6 [(0, .ref (ad 0)), (1, .int v1), (2, .ref (ad 2)), (3, .int v3)] → W p l e (headSpec wsX8_linkAllows rm_X8_linkAllows).room s m ([.ref (ad 0), .int a1] : List Value).toArray below meth c H locs 0 0 (MQ below (va_Qi (fun r' (u : xV) => r' = r ∧ xQ σ' u) (xPost G ad σ' A) A) ([.ref (ad 0), .int a1] : List Value).toArray s 0 0 A) (F0 m 57 ls []) := by
    intro n
    induction n with
    | zero =>
      intro σ v1 v3 H locs ls hf
      cases hf
    | succ n ih =>
      intro σ v1 v3 H locs ls hf B hl
      have hf : f_X8_linkAllows_57 (zlp2 (f_X8_linkAllows_57) n) σ v1 v3 = some (r, σ') := hf
      unfold f_X8_linkAllows_57 at hf
      refine lv_iload_n hx hb dX8_linkAllows_57 rfl (lv_at hl 3 rfl) ?_
      refine lv_aload_n hx hb dX8_linkAllows_58 rfl (lv_at hl 2 rfl) ?_
      refine x_getr hx hb hts hinRX7 hown B 2 7 9 (by decide) (by decide) (fun _ => rfl) rfl rfl (by decide) (by decide +kernel) rfl dX8_linkAllows_59 ?_
      refine lv_iload_n hx hb dX8_linkAllows_62 rfl (lv_at hl 1 rfl) ?_
      obtain ⟨hg, hf⟩ := zg_some hf
      refine x_iald hx hb B 9 (by decide) (fun _ => rfl) (zin_ok hg) dX8_linkAllows_63 ?_
      refine lv_icmp_ge (tgt := 158) hx hb dX8_linkAllows_64 (by decide) (fun hc => ?_) (fun hc => ?_)
      · have hf := zif_t hc hf
        refine lv_iconst (v := (1 : Int32)) hx hb dX8_linkAllows_158 (by decide) ?_
        refine W.widen (k := 0) (n := 0) (Nat.le_of_ble_eq_true rfl) (Nat.le_of_ble_eq_true rfl) ?_
        exact x_iret hx hb hr (by decide) hlocks B hf dX8_linkAllows_159
      · have hf := zif_f hc hf
        refine lv_iload_n hx hb dX8_linkAllows_67 rfl (lv_at hl 1 rfl) ?_
        refine lv_iconst (v := (4 : Int32)) hx hb dX8_linkAllows_68 (by decide) ?_
        refine lv_imul hx hb dX8_linkAllows_69 ?_
        refine lv_iload_n hx hb dX8_linkAllows_70 rfl (lv_at hl 3 rfl) ?_
        refine lv_iadd hx hb dX8_linkAllows_71 ?_
        refine lv_istore (lv' := [(4, .int ((v1 * (4 : Int32)) + v3)), (0, .ref (ad 0)), (1, .int v1), (2, .ref (ad 2)), (3, .int v3)]) hx hb dX8_linkAllows_72 hl (by decide) rfl (fun ls hl => ?_)
        refine lv_aload_n hx hb dX8_linkAllows_74 rfl (lv_at hl 3 rfl) ?_
        refine x_getr hx hb hts hinRX7 hown B 2 8 10 (by decide) (by decide) (fun _ => rfl) rfl rfl (by decide) (by decide +kernel) rfl dX8_linkAllows_75 ?_
        refine lv_iload hx hb dX8_linkAllows_78 (lv_at hl 0 rfl) ?_
        obtain ⟨hg, hf⟩ := zg_some hf
        refine x_iald hx hb B 10 (by decide) (fun _ => rfl) (zin_ok hg) dX8_linkAllows_80 ?_
        refine lv_istore (lv' := [(5, .int (σ 10 ((v1 * (4 : Int32)) + v3).toNatClampNeg)), (4, .int ((v1 * (4 : Int32)) + v3)), (0, .ref (ad 0)), (1, .int v1), (2, .ref (ad 2)), (3, .int v3)]) hx hb dX8_linkAllows_81 hl (by decide) rfl (fun ls hl => ?_)
        refine lv_iload hx hb dX8_linkAllows_83 (lv_at hl 0 rfl) ?_
        refine lv_aload_n hx hb dX8_linkAllows_85 rfl (lv_at hl 4 rfl) ?_
        refine x_getr hx hb hts hinRX7 hown B 2 9 11 (by decide) (by decide) (fun _ => rfl) rfl rfl (by decide) (by decide +kernel) rfl dX8_linkAllows_86 ?_
        refine lv_iload hx hb dX8_linkAllows_89 (lv_at hl 1 rfl) ?_
        obtain ⟨hg, hf⟩ := zg_some hf
        refine x_iald hx hb B 11 (by decide) (fun _ => rfl) (zin_ok hg) dX8_linkAllows_91 ?_
        refine lv_aload_n hx hb dX8_linkAllows_92 rfl (lv_at hl 4 rfl) ?_
        refine x_getr hx hb hts hinRX7 hown B 2 10 12 (by decide) (by decide) (fun _ => rfl) rfl rfl (by decide) (by decide +kernel) rfl dX8_linkAllows_93 ?_
        refine lv_iload hx hb dX8_linkAllows_96 (lv_at hl 1 rfl) ?_
        obtain ⟨hg, hf⟩ := zg_some hf
        refine x_iald hx hb B 12 (by decide) (fun _ => rfl) (zin_ok hg) dX8_linkAllows_98 ?_
        refine lv_aload_n hx hb dX8_linkAllows_99 rfl (lv_at hl 2 rfl) ?_
        refine x_getr hx hb hts hinRX8 hown B 0 6 62 (by decide) (by decide) (fun _ => rfl) rfl rfl (by decide) (by decide +kernel) rfl dX8_linkAllows_100 ?_
        refine lv_iload hx hb dX8_linkAllows_103 (lv_at hl 0 rfl) ?_
        obtain ⟨hg, hf⟩ := zg_some hf
        refine x_iald hx hb B 62 (by decide) (fun _ => rfl) (zin_ok hg) dX8_linkAllows_105 ?_
        obtain ⟨r2, σ3, hu1, hf⟩ := zb_some hf
        refine x_i B (fun nb a g hs Bz => va_runS (As := [.int (σ 10 ((v1 * (4 : Int32)) + v3).toNatClampNeg), .int (σ 11 ((v1 * (4 : Int32)) + v3).toNatClampNeg), .int (σ 12 ((v1 * (4 : Int32)) + v3).toNatClampNeg), .int (σ 62 (σ 10 ((v1 * (4 : Int32)) + v3).toNatClampNeg).toNatClampNeg)]) (rest := []) ⟨hx, hb, hml, hown, hts⟩ (c_X8_caveatHolds l hu1 _ nb a g hs) (va_cwS 4 hts gX8_linkAllows_X8_caveatHolds rfl rfl rfl (by decide +kernel) ⟨Nat.le_of_ble_eq_true rfl, Nat.le_of_ble_eq_true rfl⟩) (z_preS Bz) rfl rfl hl.1 rfl (lv_room (Nat.le_of_ble_eq_true rfl)) dX8_linkAllows_106 ⟨Nat.le_of_ble_eq_true rfl, Nat.le_of_ble_eq_true rfl⟩) (fun H locs B => ?_)
        refine lv_if_ne (tgt := 152) hx hb dX8_linkAllows_109 (by decide) (fun hc => ?_) (fun hc => ?_)
        · have hf := zif_f hc hf
          refine lv_iinc (v := (v3 + (1 : Int32))) (lv' := [(3, .int (v3 + (1 : Int32))), (5, .int (σ 10 ((v1 * (4 : Int32)) + v3).toNatClampNeg)), (4, .int ((v1 * (4 : Int32)) + v3)), (0, .ref (ad 0)), (1, .int v1), (2, .ref (ad 2))]) hx hb dX8_linkAllows_152 hl (k := 5) rfl (zc1 (by decide)) (by decide) rfl (fun ls hl => ?_)
          refine lv_goto (tgt := 57) hx hb dX8_linkAllows_155 (by decide) ?_
          exact ih _ _ _ _ _ _ hf B (lv_sub hl [3, 4, 5, 0] rfl)
        · have hf := zif_t hc hf
          refine lv_aload_n hx hb dX8_linkAllows_112 rfl (lv_at hl 2 rfl) ?_
          refine x_getr hx hb hts hinRX8 hown B 0 3 49 (by decide) (by decide) (fun _ => rfl) rfl rfl (by decide) (by decide +kernel) rfl dX8_linkAllows_113 ?_
          refine lv_iconst (v := (4 : Int32)) hx hb dX8_linkAllows_116 (by decide) ?_
          refine lv_iload_n hx hb dX8_linkAllows_117 rfl (lv_at hl 3 rfl) ?_
          obtain ⟨r5, σ6, hu4, hf⟩ := zb_some hf
          refine x_v B (fun nb a g hs Bz => va_runV (As := [.int (4 : Int32), .int v1]) (rest := []) ⟨hx, hb, hml, hown, hts⟩ (c_X5_begin l hu4 _ nb a g hs) (cwV 2 hts gX8_linkAllows_X5_begin rfl rfl rfl (by decide +kernel) ⟨Nat.le_of_ble_eq_true rfl, Nat.le_of_ble_eq_true rfl⟩) (x_preV Bz (by decide) (fun _ => rfl) rfl) rfl rfl hl.1 rfl (lv_room (Nat.le_of_ble_eq_true rfl)) dX8_linkAllows_118 ⟨Nat.le_of_ble_eq_true rfl, Nat.le_of_ble_eq_true rfl⟩) (fun H locs B => ?_)
          refine lv_aload_n hx hb dX8_linkAllows_121 rfl (lv_at hl 2 rfl) ?_
          refine x_getr hx hb hts hinRX8 hown B 0 3 49 (by decide) (by decide) (fun _ => rfl) rfl rfl (by decide) (by decide +kernel) rfl dX8_linkAllows_122 ?_
          refine lv_bipush (v := (10 : Int32)) hx hb dX8_linkAllows_125 (by decide) ?_
          refine lv_iload hx hb dX8_linkAllows_127 (lv_at hl 0 rfl) ?_
          refine lv_iadd hx hb dX8_linkAllows_129 ?_
          refine lv_iload_n hx hb dX8_linkAllows_130 rfl (lv_at hl 5 rfl) ?_
          obtain ⟨r8, σ9, hu7, hf⟩ := zb_some hf
          refine x_v B (fun nb a g hs Bz => va_runV (As := [.int ((10 : Int32) + (σ 10 ((v1 * (4 : Int32)) + v3).toNatClampNeg)), .int v3]) (rest := []) ⟨hx, hb, hml, hown, hts⟩ (c_X5_addCause l hu7 _ nb a g hs) (cwV 2 hts gX8_linkAllows_X5_addCause rfl rfl rfl (by decide +kernel) ⟨Nat.le_of_ble_eq_true rfl, Nat.le_of_ble_eq_true rfl⟩) (x_preV Bz (by decide) (fun _ => rfl) rfl) rfl rfl hl.1 rfl (lv_room (Nat.le_of_ble_eq_true rfl)) dX8_linkAllows_131 ⟨Nat.le_of_ble_eq_true rfl, Nat.le_of_ble_eq_true rfl⟩) (fun H locs B => ?_)
          refine lv_aload_n hx hb dX8_linkAllows_134 rfl (lv_at hl 2 rfl) ?_
          refine x_getr hx hb hts hinRX8 hown B 0 3 49 (by decide) (by decide) (fun _ => rfl) rfl rfl (by decide) (by decide +kernel) rfl dX8_linkAllows_135 ?_
          refine lv_bipush (v := (20 : Int32)) hx hb dX8_linkAllows_138 (by decide) ?_
          refine lv_aload_n hx hb dX8_linkAllows_140 rfl (lv_at hl 2 rfl) ?_
          refine x_getr hx hb hts hinRX8 hown B 0 6 62 (by decide) (by decide) (fun _ => rfl) rfl rfl (by decide) (by decide +kernel) rfl dX8_linkAllows_141 ?_
          refine lv_iload hx hb dX8_linkAllows_144 (lv_at hl 0 rfl) ?_
          obtain ⟨hg, hf⟩ := zg_some hf
          refine x_iald hx hb B 62 (by decide) (fun _ => rfl) (zin_ok hg) dX8_linkAllows_146 ?_
          obtain ⟨r11, σ12, hu10, hf⟩ := zb_some hf
          refine x_v B (fun nb a g hs Bz => va_runV (As := [.int (20 : Int32), .int (σ9 62 (σ 10 ((v1 * (4 : Int32)) + v3).toNatClampNeg).toNatClampNeg)]) (rest := []) ⟨hx, hb, hml, hown, hts⟩ (c_X5_addCause l hu10 _ nb a g hs) (cwV 2 hts gX8_linkAllows_X5_addCause rfl rfl rfl (by decide +kernel) ⟨Nat.le_of_ble_eq_true rfl, Nat.le_of_ble_eq_true rfl⟩) (x_preV Bz (by decide) (fun _ => rfl) rfl) rfl rfl hl.1 rfl (lv_room (Nat.le_of_ble_eq_true rfl)) dX8_linkAllows_147 ⟨Nat.le_of_ble_eq_true rfl, Nat.le_of_ble_eq_true rfl⟩) (fun H locs B => ?_)
          refine lv_iconst (v := (0 : Int32)) hx hb dX8_linkAllows_150 (by decide) ?_
          refine W.widen (k := 0) (n := 0) (Nat.le_of_ble_eq_true rfl) (Nat.le_of_ble_eq_true rfl) ?_
          exact x_iret hx hb hr (by decide) hlocks B hf dX8_linkAllows_151
  unfold f_X8_linkAllows at hf
  refine lv_aload_n hx hb dX8_linkAllows_0 rfl (lv_at hl 0 rfl) ?_
  refine x_getr hx hb hts hinRX8 hown B 0 0 1 (by decide) (by decide) (fun _ => rfl) rfl rfl (by decide) (by decide +kernel) rfl dX8_linkAllows_1 ?_
  refine x_getr hx hb hts hinRX6 hown B 1 0 2 (by decide) (by decide) (fun _ => rfl) rfl rfl (by decide) (by decide +kernel) rfl dX8_linkAllows_4 ?_
  refine lv_astore_n (lv' := [(2, .ref (ad 2)), (0, .ref (ad 0)), (1, .int a1)]) hx hb dX8_linkAllows_7 rfl hl (by decide) rfl (fun ls hl => ?_)
  refine lv_aload_n hx hb dX8_linkAllows_8 rfl (lv_at hl 0 rfl) ?_
  refine x_getr hx hb hts hinRX7 hown B 2 6 8 (by decide) (by decide) (fun _ => rfl) rfl rfl (by decide) (by decide +kernel) rfl dX8_linkAllows_9 ?_
  refine lv_iload_n hx hb dX8_linkAllows_12 rfl (lv_at hl 2 rfl) ?_
  obtain ⟨hg, hf⟩ := zg_some hf
  refine x_iald hx hb B 8 (by decide) (fun _ => rfl) (zin_ok hg) dX8_linkAllows_13 ?_
  refine lv_iconst (v := (-1 : Int32)) hx hb dX8_linkAllows_14 (by decide) ?_
  refine lv_icmp_eq (tgt := 43) hx hb dX8_linkAllows_15 (by decide) (fun hc => ?_) (fun hc => ?_)
  · have hf := zif_t hc hf
    refine lv_aload_n hx hb dX8_linkAllows_43 rfl (lv_at hl 1 rfl) ?_
    refine x_getr hx hb hts hinRX8 hown B 0 6 62 (by decide) (by decide) (fun _ => rfl) rfl rfl (by decide) (by decide +kernel) rfl dX8_linkAllows_44 ?_
    refine lv_iconst (v := (3 : Int32)) hx hb dX8_linkAllows_47 (by decide) ?_
    refine lv_aload_n hx hb dX8_linkAllows_48 rfl (lv_at hl 0 rfl) ?_
    refine x_getr hx hb hts hinRX7 hown B 2 5 7 (by decide) (by decide) (fun _ => rfl) rfl rfl (by decide) (by decide +kernel) rfl dX8_linkAllows_49 ?_
    refine lv_iload_n hx hb dX8_linkAllows_52 rfl (lv_at hl 2 rfl) ?_
    obtain ⟨hg, hf⟩ := zg_some hf
    refine x_iald hx hb B 7 (by decide) (fun _ => rfl) (zin_ok hg) dX8_linkAllows_53 ?_
    obtain ⟨hg, hf⟩ := zg_some hf
    refine x_iast hx hb B 62 (by decide) (by decide) (fun _ => rfl) (zin_ok hg) dX8_linkAllows_54 (fun H locs B => ?_)
    refine lv_iconst (v := (0 : Int32)) hx hb dX8_linkAllows_55 (by decide) ?_
    refine lv_istore_n (lv' := [(3, .int (0 : Int32)), (2, .ref (ad 2)), (0, .ref (ad 0)), (1, .int a1)]) hx hb dX8_linkAllows_56 rfl hl (by decide) rfl (fun ls hl => ?_)
    exact L57  _ _ _ _ _ _ _ hf B (lv_sub hl [2, 3, 1, 0] rfl)
  · have hf := zif_f hc hf
    refine lv_aload_n hx hb dX8_linkAllows_18 rfl (lv_at hl 1 rfl) ?_
    refine x_getr hx hb hts hinRX8 hown B 0 3 49 (by decide) (by decide) (fun _ => rfl) rfl rfl (by decide) (by decide +kernel) rfl dX8_linkAllows_19 ?_
    refine lv_iconst (v := (2 : Int32)) hx hb dX8_linkAllows_22 (by decide) ?_
    refine lv_iload_n hx hb dX8_linkAllows_23 rfl (lv_at hl 2 rfl) ?_
    obtain ⟨r14, σ15, hu13, hf⟩ := zb_some hf
    refine x_v B (fun nb a g hs Bz => va_runV (As := [.int (2 : Int32), .int a1]) (rest := []) ⟨hx, hb, hml, hown, hts⟩ (c_X5_begin l hu13 _ nb a g hs) (cwV 2 hts gX8_linkAllows_X5_begin rfl rfl rfl (by decide +kernel) ⟨Nat.le_of_ble_eq_true rfl, Nat.le_of_ble_eq_true rfl⟩) (x_preV Bz (by decide) (fun _ => rfl) rfl) rfl rfl hl.1 rfl (lv_room (Nat.le_of_ble_eq_true rfl)) dX8_linkAllows_24 ⟨Nat.le_of_ble_eq_true rfl, Nat.le_of_ble_eq_true rfl⟩) (fun H locs B => ?_)
    refine lv_aload_n hx hb dX8_linkAllows_27 rfl (lv_at hl 1 rfl) ?_
    refine x_getr hx hb hts hinRX8 hown B 0 3 49 (by decide) (by decide) (fun _ => rfl) rfl rfl (by decide) (by decide +kernel) rfl dX8_linkAllows_28 ?_
    refine lv_iconst (v := (3 : Int32)) hx hb dX8_linkAllows_31 (by decide) ?_
    refine lv_aload_n hx hb dX8_linkAllows_32 rfl (lv_at hl 0 rfl) ?_
    refine x_getr hx hb hts hinRX7 hown B 2 6 8 (by decide) (by decide) (fun _ => rfl) rfl rfl (by decide) (by decide +kernel) rfl dX8_linkAllows_33 ?_
    refine lv_iload_n hx hb dX8_linkAllows_36 rfl (lv_at hl 2 rfl) ?_
    obtain ⟨hg, hf⟩ := zg_some hf
    refine x_iald hx hb B 8 (by decide) (fun _ => rfl) (zin_ok hg) dX8_linkAllows_37 ?_
    obtain ⟨r17, σ18, hu16, hf⟩ := zb_some hf
    refine x_v B (fun nb a g hs Bz => va_runV (As := [.int (3 : Int32), .int (σ15 8 a1.toNatClampNeg)]) (rest := []) ⟨hx, hb, hml, hown, hts⟩ (c_X5_addCause l hu16 _ nb a g hs) (cwV 2 hts gX8_linkAllows_X5_addCause rfl rfl rfl (by decide +kernel) ⟨Nat.le_of_ble_eq_true rfl, Nat.le_of_ble_eq_true rfl⟩) (x_preV Bz (by decide) (fun _ => rfl) rfl) rfl rfl hl.1 rfl (lv_room (Nat.le_of_ble_eq_true rfl)) dX8_linkAllows_38 ⟨Nat.le_of_ble_eq_true rfl, Nat.le_of_ble_eq_true rfl⟩) (fun H locs B => ?_)
    refine lv_iconst (v := (0 : Int32)) hx hb dX8_linkAllows_41 (by decide) ?_
    refine W.widen (k := 0) (n := 0) (Nat.le_of_ble_eq_true rfl) (Nat.le_of_ble_eq_true rfl) ?_
    exact x_iret hx hb hr (by decide) hlocks B hf dX8_linkAllows_42
theorem dX8_isAllowed_0 : decode cX8_isAllowed 0 = .ok (.aload_n 0, 1) := by decide +kernel
theorem dX8_isAllowed_1 : decode cX8_isAllowed 1 = .ok (.iload_n 1, 1) := by decide +kernel
theorem dX8_isAllowed_2 : decode cX8_isAllowed 2 = .ok (.iload_n 2, 1) := by decide +kernel
theorem dX8_isAllowed_3 : decode cX8_isAllowed 3 = .ok (.invokevirtual 100, 3) := by decide +kernel
theorem dX8_isAllowed_6 : decode cX8_isAllowed 6 = .ok (.ifCond .ne 5, 3) := by decide +kernel
theorem dX8_isAllowed_9 : decode cX8_isAllowed 9 = .ok (.iconst 0, 1) := by decide +kernel
theorem dX8_isAllowed_10 : decode cX8_isAllowed 10 = .ok (.ireturn, 1) := by decide +kernel
theorem dX8_isAllowed_11 : decode cX8_isAllowed 11 = .ok (.aload_n 0, 1) := by decide +kernel
theorem dX8_isAllowed_12 : decode cX8_isAllowed 12 = .ok (.getfield 44, 3) := by decide +kernel
theorem dX8_isAllowed_15 : decode cX8_isAllowed 15 = .ok (.iconst 0, 1) := by decide +kernel
theorem dX8_isAllowed_16 : decode cX8_isAllowed 16 = .ok (.iload_n 3, 1) := by decide +kernel
theorem dX8_isAllowed_17 : decode cX8_isAllowed 17 = .ok (.iastore, 1) := by decide +kernel
theorem dX8_isAllowed_18 : decode cX8_isAllowed 18 = .ok (.aload_n 0, 1) := by decide +kernel
theorem dX8_isAllowed_19 : decode cX8_isAllowed 19 = .ok (.getfield 44, 3) := by decide +kernel
theorem dX8_isAllowed_22 : decode cX8_isAllowed 22 = .ok (.iconst 1, 1) := by decide +kernel
theorem dX8_isAllowed_23 : decode cX8_isAllowed 23 = .ok (.aload_n 0, 1) := by decide +kernel
theorem dX8_isAllowed_24 : decode cX8_isAllowed 24 = .ok (.getfield 12, 3) := by decide +kernel
theorem dX8_isAllowed_27 : decode cX8_isAllowed 27 = .ok (.getfield 263, 3) := by decide +kernel
theorem dX8_isAllowed_30 : decode cX8_isAllowed 30 = .ok (.iastore, 1) := by decide +kernel
theorem dX8_isAllowed_31 : decode cX8_isAllowed 31 = .ok (.aload_n 0, 1) := by decide +kernel
theorem dX8_isAllowed_32 : decode cX8_isAllowed 32 = .ok (.getfield 44, 3) := by decide +kernel
theorem dX8_isAllowed_35 : decode cX8_isAllowed 35 = .ok (.iconst 2, 1) := by decide +kernel
theorem dX8_isAllowed_36 : decode cX8_isAllowed 36 = .ok (.iload_n 1, 1) := by decide +kernel
theorem dX8_isAllowed_37 : decode cX8_isAllowed 37 = .ok (.iastore, 1) := by decide +kernel
theorem dX8_isAllowed_38 : decode cX8_isAllowed 38 = .ok (.aload_n 0, 1) := by decide +kernel
theorem dX8_isAllowed_39 : decode cX8_isAllowed 39 = .ok (.getfield 44, 3) := by decide +kernel
theorem dX8_isAllowed_42 : decode cX8_isAllowed 42 = .ok (.iconst 4, 1) := by decide +kernel
theorem dX8_isAllowed_43 : decode cX8_isAllowed 43 = .ok (.iload 4, 2) := by decide +kernel
theorem dX8_isAllowed_45 : decode cX8_isAllowed 45 = .ok (.iastore, 1) := by decide +kernel
theorem dX8_isAllowed_46 : decode cX8_isAllowed 46 = .ok (.iconst 0, 1) := by decide +kernel
theorem dX8_isAllowed_47 : decode cX8_isAllowed 47 = .ok (.istore 5, 2) := by decide +kernel
theorem dX8_isAllowed_49 : decode cX8_isAllowed 49 = .ok (.iload 5, 2) := by decide +kernel
theorem dX8_isAllowed_51 : decode cX8_isAllowed 51 = .ok (.aload_n 0, 1) := by decide +kernel
theorem dX8_isAllowed_52 : decode cX8_isAllowed 52 = .ok (.getfield 12, 3) := by decide +kernel
theorem dX8_isAllowed_55 : decode cX8_isAllowed 55 = .ok (.getfield 66, 3) := by decide +kernel
theorem dX8_isAllowed_58 : decode cX8_isAllowed 58 = .ok (.getfield 116, 3) := by decide +kernel
theorem dX8_isAllowed_61 : decode cX8_isAllowed 61 = .ok (.iload_n 2, 1) := by decide +kernel
theorem dX8_isAllowed_62 : decode cX8_isAllowed 62 = .ok (.iaload, 1) := by decide +kernel
theorem dX8_isAllowed_63 : decode cX8_isAllowed 63 = .ok (.if_icmp .ge 36, 3) := by decide +kernel
theorem dX8_isAllowed_66 : decode cX8_isAllowed 66 = .ok (.aload_n 0, 1) := by decide +kernel
theorem dX8_isAllowed_67 : decode cX8_isAllowed 67 = .ok (.aload_n 0, 1) := by decide +kernel
theorem dX8_isAllowed_68 : decode cX8_isAllowed 68 = .ok (.getfield 12, 3) := by decide +kernel
theorem dX8_isAllowed_71 : decode cX8_isAllowed 71 = .ok (.getfield 66, 3) := by decide +kernel
theorem dX8_isAllowed_74 : decode cX8_isAllowed 74 = .ok (.getfield 388, 3) := by decide +kernel
theorem dX8_isAllowed_77 : decode cX8_isAllowed 77 = .ok (.iload_n 2, 1) := by decide +kernel
theorem dX8_isAllowed_78 : decode cX8_isAllowed 78 = .ok (.bipush 7, 2) := by decide +kernel
theorem dX8_isAllowed_80 : decode cX8_isAllowed 80 = .ok (.imul, 1) := by decide +kernel
theorem dX8_isAllowed_81 : decode cX8_isAllowed 81 = .ok (.iload 5, 2) := by decide +kernel
theorem dX8_isAllowed_83 : decode cX8_isAllowed 83 = .ok (.iadd, 1) := by decide +kernel
theorem dX8_isAllowed_84 : decode cX8_isAllowed 84 = .ok (.iaload, 1) := by decide +kernel
theorem dX8_isAllowed_85 : decode cX8_isAllowed 85 = .ok (.invokevirtual 391, 3) := by decide +kernel
theorem dX8_isAllowed_88 : decode cX8_isAllowed 88 = .ok (.ifCond .ne 5, 3) := by decide +kernel
theorem dX8_isAllowed_91 : decode cX8_isAllowed 91 = .ok (.iconst 0, 1) := by decide +kernel
theorem dX8_isAllowed_92 : decode cX8_isAllowed 92 = .ok (.ireturn, 1) := by decide +kernel
theorem dX8_isAllowed_93 : decode cX8_isAllowed 93 = .ok (.iinc 5 1, 3) := by decide +kernel
theorem dX8_isAllowed_96 : decode cX8_isAllowed 96 = .ok (.goto (-47), 3) := by decide +kernel
theorem dX8_isAllowed_99 : decode cX8_isAllowed 99 = .ok (.iconst 1, 1) := by decide +kernel
theorem dX8_isAllowed_100 : decode cX8_isAllowed 100 = .ok (.ireturn, 1) := by decide +kernel
set_option maxRecDepth 20000 in
theorem ggX8_isAllowed_X8_holdsToken : GoodIn wsX8_isAllowed wsX8_holdsToken := goodIn_ca (goodIn_r _ [11, 2, 4, 12, 13, 14, 15, 10, 16, 17, 18, 19, 20, 21, 22, 23, 24, 25, 26, 27, 28, 43, 44, 45, 46, 47, 48, 49, 50, 51, 52, 53, 54, 55, 56, 57, 58, 59, 60, 61, 62, 63, 64, 65, 66, 67, 68, 69, 70, 71, 72, 73] (by decide +kernel) (by decide +kernel)) (goodIn_sub (fun _ h => List.mem_cons_of_mem _ (List.mem_append_right _ h)) (by decide +kernel))
set_option maxRecDepth 20000 in
theorem gX8_isAllowed_X8_holdsToken : GoodIn wsX8_isAllowed (wsV RX8 100 RX8 yX8_holdsToken wsX8_holdsToken) := goodIn_app (goodIn_of _ (by decide +kernel)) ggX8_isAllowed_X8_holdsToken
set_option maxRecDepth 20000 in
theorem ggX8_isAllowed_X8_linkAllows : GoodIn wsX8_isAllowed wsX8_linkAllows := goodIn_ca (goodIn_r _ [32, 2, 4, 33, 13, 1, 34, 35, 36, 37, 38, 17, 18, 19, 20, 21, 22, 23, 24, 25, 26, 27, 28, 39, 40, 41, 10, 42, 43, 44, 45, 46, 47, 48, 49, 50, 51, 52, 53, 54, 55, 56, 57, 58, 59, 60, 61, 62, 63, 64, 65, 66, 67, 68, 69, 70, 71, 72, 73] (by decide +kernel) (by decide +kernel)) (goodIn_sub (fun _ h => List.mem_cons_of_mem _ (List.mem_append_right _ h)) (by decide +kernel))
set_option maxRecDepth 20000 in
theorem gX8_isAllowed_X8_linkAllows : GoodIn wsX8_isAllowed (wsV RX8 391 RX8 yX8_linkAllows wsX8_linkAllows) := goodIn_app (goodIn_of _ (by decide +kernel)) ggX8_isAllowed_X8_linkAllows
def rm_X8_isAllowed : Room := { frames := 4, cells := 0, slots := 0, locals := 85 }
set_option maxHeartbeats 4000000 in
set_option maxRecDepth 100000 in
theorem c_X8_isAllowed (l : Launch) {G : zG} {ad : Nat → Nat} {σ σ' : zs} {a1 a2 a3 a4 : Int32} {r : Int32} (hf : f_X8_isAllowed σ a1 a2 a3 a4 = some (r, σ')) : xMi l yX8_isAllowed wsX8_isAllowed rm_X8_isAllowed G ad σ [.ref (ad 0), .int a1, .int a2, .int a3, .int a4] r σ' := by
  intro sz nb a g hs
  refine Met.ofW (cc := cX8_isAllowed) (maxL := 6) (ret := (some .boolean)) (by decide) rfl ?_
  intro p e s m args below meth c s₁ B hml hv
  obtain ⟨rfl, hsz, hv⟩ := hv
  have hx := B.exec
  have hb := B.bytes
  have hr := B.returns
  have hts := atoms_spec (ws := wsX8_isAllowed) B.pre
  have hown : s.vm.findClass RX8 = some m.cls := findClass_of_methodNamed B.named
  have hlocks := B.notSynchronized
  subst hsz
  have B := xB_start hs hv
  have hinRX6 : ∀ w ∈ wsX60, w ∈ wsX8_isAllowed := by decide +kernel
  have hinRX7 : ∀ w ∈ wsX70, w ∈ wsX8_isAllowed := by decide +kernel
  have hinRX8 : ∀ w ∈ wsX80, w ∈ wsX8_isAllowed := by decide +kernel
  have hl := lv_entry ([.ref (ad 0), .int a1, .int a2, .int a3, .int a4]) (n := 6) (Nat.le_of_ble_eq_true rfl)
  rw [lg_entry_eq]
  generalize (lg_sl ([.ref (ad 0), .int a1, .int a2, .int a3, .int a4]) ++ List.replicate (6 - (lg_sl ([.ref (ad 0), .int a1, .int a2, .int a3, .int a4])).length) Slot.unset).toArray = ls at hl ⊢
  have hl : lv_has ls 6 [(0, .ref (ad 0)), (1, .int a1), (2, .int a2), (3, .int a3), (4, .int a4)] := hl
  generalize hAe : xA ad a s.heap.size = A at B ⊢
  have L49 : ∀ (n : Nat) (σ : zs) (v2 : Int32) (v5 : Int32) (H : Heap) (locs : List Loc) (ls : Array Slot), zlp2 (f_X8_isAllowed_49) n σ v2 v5 = some (r, σ') → xB A s G ad σ H locs → lv_has ls 6 [(0, .ref (ad 0)), (2, .int v2), (5, .int v5)] → W p l e (headSpec wsX8_isAllowed rm_X8_isAllowed).room s m ([.ref (ad 0), .int a1, .int a2, .int a3, .int a4] : List Value).toArray below meth c H locs 0 0 (MQ below (va_Qi (fun r' (u : xV) => r' = r ∧ xQ σ' u) (xPost G ad σ' A) A) ([.ref (ad 0), .int a1, .int a2, .int a3, .int a4] : List Value).toArray s 0 0 A) (F0 m 49 ls []) := by
    intro n
    induction n with
    | zero =>
      intro σ v2 v5 H locs ls hf
      cases hf
    | succ n ih =>
      intro σ v2 v5 H locs ls hf B hl
      have hf : f_X8_isAllowed_49 (zlp2 (f_X8_isAllowed_49) n) σ v2 v5 = some (r, σ') := hf
      unfold f_X8_isAllowed_49 at hf
      refine lv_iload hx hb dX8_isAllowed_49 (lv_at hl 2 rfl) ?_
      refine lv_aload_n hx hb dX8_isAllowed_51 rfl (lv_at hl 0 rfl) ?_
      refine x_getr hx hb hts hinRX8 hown B 0 0 1 (by decide) (by decide) (fun _ => rfl) rfl rfl (by decide) (by decide +kernel) rfl dX8_isAllowed_52 ?_
      refine x_getr hx hb hts hinRX6 hown B 1 0 2 (by decide) (by decide) (fun _ => rfl) rfl rfl (by decide) (by decide +kernel) rfl dX8_isAllowed_55 ?_
      refine x_getr hx hb hts hinRX7 hown B 2 2 4 (by decide) (by decide) (fun _ => rfl) rfl rfl (by decide) (by decide +kernel) rfl dX8_isAllowed_58 ?_
      refine lv_iload_n hx hb dX8_isAllowed_61 rfl (lv_at hl 1 rfl) ?_
      obtain ⟨hg, hf⟩ := zg_some hf
      refine x_iald hx hb B 4 (by decide) (fun _ => rfl) (zin_ok hg) dX8_isAllowed_62 ?_
      refine lv_icmp_ge (tgt := 99) hx hb dX8_isAllowed_63 (by decide) (fun hc => ?_) (fun hc => ?_)
      · have hf := zif_t hc hf
        refine lv_iconst (v := (1 : Int32)) hx hb dX8_isAllowed_99 (by decide) ?_
        refine W.widen (k := 0) (n := 0) (Nat.le_of_ble_eq_true rfl) (Nat.le_of_ble_eq_true rfl) ?_
        exact x_iret hx hb hr (by decide) hlocks B hf dX8_isAllowed_100
      · have hf := zif_f hc hf
        refine lv_aload_n hx hb dX8_isAllowed_66 rfl (lv_at hl 0 rfl) ?_
        refine lv_aload_n hx hb dX8_isAllowed_67 rfl (lv_at hl 0 rfl) ?_
        refine x_getr hx hb hts hinRX8 hown B 0 0 1 (by decide) (by decide) (fun _ => rfl) rfl rfl (by decide) (by decide +kernel) rfl dX8_isAllowed_68 ?_
        refine x_getr hx hb hts hinRX6 hown B 1 0 2 (by decide) (by decide) (fun _ => rfl) rfl rfl (by decide) (by decide +kernel) rfl dX8_isAllowed_71 ?_
        refine x_getr hx hb hts hinRX7 hown B 2 3 5 (by decide) (by decide) (fun _ => rfl) rfl rfl (by decide) (by decide +kernel) rfl dX8_isAllowed_74 ?_
        refine lv_iload_n hx hb dX8_isAllowed_77 rfl (lv_at hl 1 rfl) ?_
        refine lv_bipush (v := (7 : Int32)) hx hb dX8_isAllowed_78 (by decide) ?_
        refine lv_imul hx hb dX8_isAllowed_80 ?_
        refine lv_iload hx hb dX8_isAllowed_81 (lv_at hl 2 rfl) ?_
        refine lv_iadd hx hb dX8_isAllowed_83 ?_
        obtain ⟨hg, hf⟩ := zg_some hf
        refine x_iald hx hb B 5 (by decide) (fun _ => rfl) (zin_ok hg) dX8_isAllowed_84 ?_
        obtain ⟨r5, σ6, hu4, hf⟩ := zb_some hf
        refine x_i B (fun nb a g hs Bz => va_runV (As := [.int (σ 5 ((v2 * (7 : Int32)) + v5).toNatClampNeg)]) (rest := []) ⟨hx, hb, hml, hown, hts⟩ (c_X8_linkAllows l hu4 _ nb a g hs) (cwV 1 hts gX8_isAllowed_X8_linkAllows rfl rfl rfl (by decide +kernel) ⟨Nat.le_of_ble_eq_true rfl, Nat.le_of_ble_eq_true rfl⟩) (x_preV Bz (by decide) (fun _ => rfl) rfl) rfl rfl hl.1 rfl (lv_room (Nat.le_of_ble_eq_true rfl)) dX8_isAllowed_85 ⟨Nat.le_of_ble_eq_true rfl, Nat.le_of_ble_eq_true rfl⟩) (fun H locs B => ?_)
        refine lv_if_ne (tgt := 93) hx hb dX8_isAllowed_88 (by decide) (fun hc => ?_) (fun hc => ?_)
        · have hf := zif_f hc hf
          refine lv_iinc (v := (v5 + (1 : Int32))) (lv' := [(5, .int (v5 + (1 : Int32))), (0, .ref (ad 0)), (2, .int v2)]) hx hb dX8_isAllowed_93 hl (k := 2) rfl (zc1 (by decide)) (by decide) rfl (fun ls hl => ?_)
          refine lv_goto (tgt := 49) hx hb dX8_isAllowed_96 (by decide) ?_
          exact ih _ _ _ _ _ _ hf B (lv_sub hl [1, 2, 0] rfl)
        · have hf := zif_t hc hf
          refine lv_iconst (v := (0 : Int32)) hx hb dX8_isAllowed_91 (by decide) ?_
          refine W.widen (k := 0) (n := 0) (Nat.le_of_ble_eq_true rfl) (Nat.le_of_ble_eq_true rfl) ?_
          exact x_iret hx hb hr (by decide) hlocks B hf dX8_isAllowed_92
  unfold f_X8_isAllowed at hf
  refine lv_aload_n hx hb dX8_isAllowed_0 rfl (lv_at hl 0 rfl) ?_
  refine lv_iload_n hx hb dX8_isAllowed_1 rfl (lv_at hl 1 rfl) ?_
  refine lv_iload_n hx hb dX8_isAllowed_2 rfl (lv_at hl 2 rfl) ?_
  obtain ⟨r2, σ3, hu1, hf⟩ := zb_some hf
  refine x_i B (fun nb a g hs Bz => va_runV (As := [.int a1, .int a2]) (rest := []) ⟨hx, hb, hml, hown, hts⟩ (c_X8_holdsToken l hu1 _ nb a g hs) (cwV 2 hts gX8_isAllowed_X8_holdsToken rfl rfl rfl (by decide +kernel) ⟨Nat.le_of_ble_eq_true rfl, Nat.le_of_ble_eq_true rfl⟩) (x_preV Bz (by decide) (fun _ => rfl) rfl) rfl rfl hl.1 rfl (lv_room (Nat.le_of_ble_eq_true rfl)) dX8_isAllowed_3 ⟨Nat.le_of_ble_eq_true rfl, Nat.le_of_ble_eq_true rfl⟩) (fun H locs B => ?_)
  refine lv_if_ne (tgt := 11) hx hb dX8_isAllowed_6 (by decide) (fun hc => ?_) (fun hc => ?_)
  · have hf := zif_f hc hf
    refine lv_aload_n hx hb dX8_isAllowed_11 rfl (lv_at hl 0 rfl) ?_
    refine x_getr hx hb hts hinRX8 hown B 0 6 62 (by decide) (by decide) (fun _ => rfl) rfl rfl (by decide) (by decide +kernel) rfl dX8_isAllowed_12 ?_
    refine lv_iconst (v := (0 : Int32)) hx hb dX8_isAllowed_15 (by decide) ?_
    refine lv_iload_n hx hb dX8_isAllowed_16 rfl (lv_at hl 3 rfl) ?_
    obtain ⟨hg, hf⟩ := zg_some hf
    refine x_iast hx hb B 62 (by decide) (by decide) (fun _ => rfl) (zin_ok hg) dX8_isAllowed_17 (fun H locs B => ?_)
    refine lv_aload_n hx hb dX8_isAllowed_18 rfl (lv_at hl 0 rfl) ?_
    refine x_getr hx hb hts hinRX8 hown B 0 6 62 (by decide) (by decide) (fun _ => rfl) rfl rfl (by decide) (by decide +kernel) rfl dX8_isAllowed_19 ?_
    refine lv_iconst (v := (1 : Int32)) hx hb dX8_isAllowed_22 (by decide) ?_
    refine lv_aload_n hx hb dX8_isAllowed_23 rfl (lv_at hl 0 rfl) ?_
    refine x_getr hx hb hts hinRX8 hown B 0 0 1 (by decide) (by decide) (fun _ => rfl) rfl rfl (by decide) (by decide +kernel) rfl dX8_isAllowed_24 ?_
    refine x_geti hx hb hts hinRX6 hown B 1 5 (by decide) (fun _ => rfl) rfl rfl (by decide) (by decide +kernel) rfl dX8_isAllowed_27 ?_
    obtain ⟨hg, hf⟩ := zg_some hf
    refine x_iast hx hb B 62 (by decide) (by decide) (fun _ => rfl) (zin_ok hg) dX8_isAllowed_30 (fun H locs B => ?_)
    refine lv_aload_n hx hb dX8_isAllowed_31 rfl (lv_at hl 0 rfl) ?_
    refine x_getr hx hb hts hinRX8 hown B 0 6 62 (by decide) (by decide) (fun _ => rfl) rfl rfl (by decide) (by decide +kernel) rfl dX8_isAllowed_32 ?_
    refine lv_iconst (v := (2 : Int32)) hx hb dX8_isAllowed_35 (by decide) ?_
    refine lv_iload_n hx hb dX8_isAllowed_36 rfl (lv_at hl 1 rfl) ?_
    obtain ⟨hg, hf⟩ := zg_some hf
    refine x_iast hx hb B 62 (by decide) (by decide) (fun _ => rfl) (zin_ok hg) dX8_isAllowed_37 (fun H locs B => ?_)
    refine lv_aload_n hx hb dX8_isAllowed_38 rfl (lv_at hl 0 rfl) ?_
    refine x_getr hx hb hts hinRX8 hown B 0 6 62 (by decide) (by decide) (fun _ => rfl) rfl rfl (by decide) (by decide +kernel) rfl dX8_isAllowed_39 ?_
    refine lv_iconst (v := (4 : Int32)) hx hb dX8_isAllowed_42 (by decide) ?_
    refine lv_iload hx hb dX8_isAllowed_43 (lv_at hl 4 rfl) ?_
    obtain ⟨hg, hf⟩ := zg_some hf
    refine x_iast hx hb B 62 (by decide) (by decide) (fun _ => rfl) (zin_ok hg) dX8_isAllowed_45 (fun H locs B => ?_)
    refine lv_iconst (v := (0 : Int32)) hx hb dX8_isAllowed_46 (by decide) ?_
    refine lv_istore (lv' := [(5, .int (0 : Int32)), (0, .ref (ad 0)), (1, .int a1), (2, .int a2), (3, .int a3), (4, .int a4)]) hx hb dX8_isAllowed_47 hl (by decide) rfl (fun ls hl => ?_)
    exact L49  _ _ _ _ _ _ _ hf B (lv_sub hl [1, 3, 0] rfl)
  · have hf := zif_t hc hf
    refine lv_iconst (v := (0 : Int32)) hx hb dX8_isAllowed_9 (by decide) ?_
    refine W.widen (k := 0) (n := 0) (Nat.le_of_ble_eq_true rfl) (Nat.le_of_ble_eq_true rfl) ?_
    exact x_iret hx hb hr (by decide) hlocks B hf dX8_isAllowed_10
theorem dJ6_bitCount_0f7a4_0 : decode cJ6_bitCount_0f7a4 0 = .ok (.iload_n 0, 1) := by decide +kernel
theorem dJ6_bitCount_0f7a4_1 : decode cJ6_bitCount_0f7a4 1 = .ok (.iload_n 0, 1) := by decide +kernel
theorem dJ6_bitCount_0f7a4_2 : decode cJ6_bitCount_0f7a4 2 = .ok (.iconst 1, 1) := by decide +kernel
theorem dJ6_bitCount_0f7a4_3 : decode cJ6_bitCount_0f7a4 3 = .ok (.iushr, 1) := by decide +kernel
theorem dJ6_bitCount_0f7a4_4 : decode cJ6_bitCount_0f7a4 4 = .ok (.ldc_w 265, 3) := by decide +kernel
theorem dJ6_bitCount_0f7a4_7 : decode cJ6_bitCount_0f7a4 7 = .ok (.iand, 1) := by decide +kernel
theorem dJ6_bitCount_0f7a4_8 : decode cJ6_bitCount_0f7a4 8 = .ok (.isub, 1) := by decide +kernel
theorem dJ6_bitCount_0f7a4_9 : decode cJ6_bitCount_0f7a4 9 = .ok (.istore_n 0, 1) := by decide +kernel
theorem dJ6_bitCount_0f7a4_10 : decode cJ6_bitCount_0f7a4 10 = .ok (.iload_n 0, 1) := by decide +kernel
theorem dJ6_bitCount_0f7a4_11 : decode cJ6_bitCount_0f7a4 11 = .ok (.ldc_w 266, 3) := by decide +kernel
theorem dJ6_bitCount_0f7a4_14 : decode cJ6_bitCount_0f7a4 14 = .ok (.iand, 1) := by decide +kernel
theorem dJ6_bitCount_0f7a4_15 : decode cJ6_bitCount_0f7a4 15 = .ok (.iload_n 0, 1) := by decide +kernel
theorem dJ6_bitCount_0f7a4_16 : decode cJ6_bitCount_0f7a4 16 = .ok (.iconst 2, 1) := by decide +kernel
theorem dJ6_bitCount_0f7a4_17 : decode cJ6_bitCount_0f7a4 17 = .ok (.iushr, 1) := by decide +kernel
theorem dJ6_bitCount_0f7a4_18 : decode cJ6_bitCount_0f7a4 18 = .ok (.ldc_w 266, 3) := by decide +kernel
theorem dJ6_bitCount_0f7a4_21 : decode cJ6_bitCount_0f7a4 21 = .ok (.iand, 1) := by decide +kernel
theorem dJ6_bitCount_0f7a4_22 : decode cJ6_bitCount_0f7a4 22 = .ok (.iadd, 1) := by decide +kernel
theorem dJ6_bitCount_0f7a4_23 : decode cJ6_bitCount_0f7a4 23 = .ok (.istore_n 0, 1) := by decide +kernel
theorem dJ6_bitCount_0f7a4_24 : decode cJ6_bitCount_0f7a4 24 = .ok (.iload_n 0, 1) := by decide +kernel
theorem dJ6_bitCount_0f7a4_25 : decode cJ6_bitCount_0f7a4 25 = .ok (.iload_n 0, 1) := by decide +kernel
theorem dJ6_bitCount_0f7a4_26 : decode cJ6_bitCount_0f7a4 26 = .ok (.iconst 4, 1) := by decide +kernel
theorem dJ6_bitCount_0f7a4_27 : decode cJ6_bitCount_0f7a4 27 = .ok (.iushr, 1) := by decide +kernel
theorem dJ6_bitCount_0f7a4_28 : decode cJ6_bitCount_0f7a4 28 = .ok (.iadd, 1) := by decide +kernel
theorem dJ6_bitCount_0f7a4_29 : decode cJ6_bitCount_0f7a4 29 = .ok (.ldc_w 267, 3) := by decide +kernel
theorem dJ6_bitCount_0f7a4_32 : decode cJ6_bitCount_0f7a4 32 = .ok (.iand, 1) := by decide +kernel
theorem dJ6_bitCount_0f7a4_33 : decode cJ6_bitCount_0f7a4 33 = .ok (.istore_n 0, 1) := by decide +kernel
theorem dJ6_bitCount_0f7a4_34 : decode cJ6_bitCount_0f7a4 34 = .ok (.iload_n 0, 1) := by decide +kernel
theorem dJ6_bitCount_0f7a4_35 : decode cJ6_bitCount_0f7a4 35 = .ok (.iload_n 0, 1) := by decide +kernel
theorem dJ6_bitCount_0f7a4_36 : decode cJ6_bitCount_0f7a4 36 = .ok (.bipush 8, 2) := by decide +kernel
theorem dJ6_bitCount_0f7a4_38 : decode cJ6_bitCount_0f7a4 38 = .ok (.iushr, 1) := by decide +kernel
theorem dJ6_bitCount_0f7a4_39 : decode cJ6_bitCount_0f7a4 39 = .ok (.iadd, 1) := by decide +kernel
theorem dJ6_bitCount_0f7a4_40 : decode cJ6_bitCount_0f7a4 40 = .ok (.istore_n 0, 1) := by decide +kernel
theorem dJ6_bitCount_0f7a4_41 : decode cJ6_bitCount_0f7a4 41 = .ok (.iload_n 0, 1) := by decide +kernel
theorem dJ6_bitCount_0f7a4_42 : decode cJ6_bitCount_0f7a4 42 = .ok (.iload_n 0, 1) := by decide +kernel
theorem dJ6_bitCount_0f7a4_43 : decode cJ6_bitCount_0f7a4 43 = .ok (.bipush 16, 2) := by decide +kernel
theorem dJ6_bitCount_0f7a4_45 : decode cJ6_bitCount_0f7a4 45 = .ok (.iushr, 1) := by decide +kernel
theorem dJ6_bitCount_0f7a4_46 : decode cJ6_bitCount_0f7a4 46 = .ok (.iadd, 1) := by decide +kernel
theorem dJ6_bitCount_0f7a4_47 : decode cJ6_bitCount_0f7a4 47 = .ok (.istore_n 0, 1) := by decide +kernel
theorem dJ6_bitCount_0f7a4_48 : decode cJ6_bitCount_0f7a4 48 = .ok (.iload_n 0, 1) := by decide +kernel
theorem dJ6_bitCount_0f7a4_49 : decode cJ6_bitCount_0f7a4 49 = .ok (.bipush 63, 2) := by decide +kernel
theorem dJ6_bitCount_0f7a4_51 : decode cJ6_bitCount_0f7a4 51 = .ok (.iand, 1) := by decide +kernel
theorem dJ6_bitCount_0f7a4_52 : decode cJ6_bitCount_0f7a4 52 = .ok (.ireturn, 1) := by decide +kernel
def rm_J6_bitCount_0f7a4 : Room := { frames := 1, cells := 0, slots := 0, locals := 16 }
set_option maxHeartbeats 4000000 in
set_option maxRecDepth 100000 in
theorem c_J6_bitCount_0f7a4 (l : Launch) {G : zG} {ad : Nat → Nat} {σ σ' : zs} {a0 : Int32} {r : Int32} (hf : f_J6_bitCount_0f7a4 σ a0 = some (r, σ')) : xMi l yJ6_bitCount_0f7a4 wsJ6_bitCount_0f7a4 rm_J6_bitCount_0f7a4 G ad σ [.int a0] r σ' := by
  intro sz nb a g hs
  refine Met.ofW (cc := cJ6_bitCount_0f7a4) (maxL := 1) (ret := (some .int)) (by decide) rfl ?_
  intro p e s m args below meth c s₁ B hml hv
  obtain ⟨rfl, hsz, hv⟩ := hv
  have hx := B.exec
  have hb := B.bytes
  have hr := B.returns
  have hts := atoms_spec (ws := wsJ6_bitCount_0f7a4) B.pre
  have hown : s.vm.findClass RJ6 = some m.cls := findClass_of_methodNamed B.named
  have hlocks := B.notSynchronized
  subst hsz
  have B := xB_start hs hv
  have hl := lv_entry ([.int a0]) (n := 1) (Nat.le_of_ble_eq_true rfl)
  rw [lg_entry_eq]
  generalize (lg_sl ([.int a0]) ++ List.replicate (1 - (lg_sl ([.int a0])).length) Slot.unset).toArray = ls at hl ⊢
  have hl : lv_has ls 1 [(0, .int a0)] := hl
  generalize hAe : xA ad a s.heap.size = A at B ⊢
  unfold f_J6_bitCount_0f7a4 at hf
  refine lv_iload_n hx hb dJ6_bitCount_0f7a4_0 rfl (lv_at hl 0 rfl) ?_
  refine lv_iload_n hx hb dJ6_bitCount_0f7a4_1 rfl (lv_at hl 0 rfl) ?_
  refine lv_iconst (v := (1 : Int32)) hx hb dJ6_bitCount_0f7a4_2 (by decide) ?_
  refine lv_iushr (v := (a0.toUInt32 >>> ((1 : Int32).toUInt32 &&& Int32.toUInt32 31)).toInt32) hx hb dJ6_bitCount_0f7a4_3 rfl ?_
  refine lv_ldcw (v := (1431655765 : Int32)) hx hb hown (hts (.constant RJ6 265 (1431655765)) (by decide +kernel)) dJ6_bitCount_0f7a4_4 ?_
  refine lv_iand hx hb dJ6_bitCount_0f7a4_7 ?_
  refine lv_isub hx hb dJ6_bitCount_0f7a4_8 ?_
  refine lv_topi (fun w1 ew1 => ?_)
  have hf := zl_at ew1 hf
  refine lv_istore_n (lv' := [(0, .int w1)]) hx hb dJ6_bitCount_0f7a4_9 rfl hl (by decide) rfl (fun ls hl => ?_)
  refine lv_iload_n hx hb dJ6_bitCount_0f7a4_10 rfl (lv_at hl 0 rfl) ?_
  refine lv_ldcw (v := (858993459 : Int32)) hx hb hown (hts (.constant RJ6 266 (858993459)) (by decide +kernel)) dJ6_bitCount_0f7a4_11 ?_
  refine lv_iand hx hb dJ6_bitCount_0f7a4_14 ?_
  refine lv_iload_n hx hb dJ6_bitCount_0f7a4_15 rfl (lv_at hl 0 rfl) ?_
  refine lv_iconst (v := (2 : Int32)) hx hb dJ6_bitCount_0f7a4_16 (by decide) ?_
  refine lv_iushr (v := (w1.toUInt32 >>> ((2 : Int32).toUInt32 &&& Int32.toUInt32 31)).toInt32) hx hb dJ6_bitCount_0f7a4_17 rfl ?_
  refine lv_ldcw (v := (858993459 : Int32)) hx hb hown (hts (.constant RJ6 266 (858993459)) (by decide +kernel)) dJ6_bitCount_0f7a4_18 ?_
  refine lv_iand hx hb dJ6_bitCount_0f7a4_21 ?_
  refine lv_iadd hx hb dJ6_bitCount_0f7a4_22 ?_
  refine lv_topi (fun w2 ew2 => ?_)
  have hf := zl_at ew2 hf
  refine lv_istore_n (lv' := [(0, .int w2)]) hx hb dJ6_bitCount_0f7a4_23 rfl hl (by decide) rfl (fun ls hl => ?_)
  refine lv_iload_n hx hb dJ6_bitCount_0f7a4_24 rfl (lv_at hl 0 rfl) ?_
  refine lv_iload_n hx hb dJ6_bitCount_0f7a4_25 rfl (lv_at hl 0 rfl) ?_
  refine lv_iconst (v := (4 : Int32)) hx hb dJ6_bitCount_0f7a4_26 (by decide) ?_
  refine lv_iushr (v := (w2.toUInt32 >>> ((4 : Int32).toUInt32 &&& Int32.toUInt32 31)).toInt32) hx hb dJ6_bitCount_0f7a4_27 rfl ?_
  refine lv_iadd hx hb dJ6_bitCount_0f7a4_28 ?_
  refine lv_ldcw (v := (252645135 : Int32)) hx hb hown (hts (.constant RJ6 267 (252645135)) (by decide +kernel)) dJ6_bitCount_0f7a4_29 ?_
  refine lv_iand hx hb dJ6_bitCount_0f7a4_32 ?_
  refine lv_topi (fun w3 ew3 => ?_)
  have hf := zl_at ew3 hf
  refine lv_istore_n (lv' := [(0, .int w3)]) hx hb dJ6_bitCount_0f7a4_33 rfl hl (by decide) rfl (fun ls hl => ?_)
  refine lv_iload_n hx hb dJ6_bitCount_0f7a4_34 rfl (lv_at hl 0 rfl) ?_
  refine lv_iload_n hx hb dJ6_bitCount_0f7a4_35 rfl (lv_at hl 0 rfl) ?_
  refine lv_bipush (v := (8 : Int32)) hx hb dJ6_bitCount_0f7a4_36 (by decide) ?_
  refine lv_iushr (v := (w3.toUInt32 >>> ((8 : Int32).toUInt32 &&& Int32.toUInt32 31)).toInt32) hx hb dJ6_bitCount_0f7a4_38 rfl ?_
  refine lv_iadd hx hb dJ6_bitCount_0f7a4_39 ?_
  refine lv_topi (fun w4 ew4 => ?_)
  have hf := zl_at ew4 hf
  refine lv_istore_n (lv' := [(0, .int w4)]) hx hb dJ6_bitCount_0f7a4_40 rfl hl (by decide) rfl (fun ls hl => ?_)
  refine lv_iload_n hx hb dJ6_bitCount_0f7a4_41 rfl (lv_at hl 0 rfl) ?_
  refine lv_iload_n hx hb dJ6_bitCount_0f7a4_42 rfl (lv_at hl 0 rfl) ?_
  refine lv_bipush (v := (16 : Int32)) hx hb dJ6_bitCount_0f7a4_43 (by decide) ?_
  refine lv_iushr (v := (w4.toUInt32 >>> ((16 : Int32).toUInt32 &&& Int32.toUInt32 31)).toInt32) hx hb dJ6_bitCount_0f7a4_45 rfl ?_
  refine lv_iadd hx hb dJ6_bitCount_0f7a4_46 ?_
  refine lv_topi (fun w5 ew5 => ?_)
  have hf := zl_at ew5 hf
  refine lv_istore_n (lv' := [(0, .int w5)]) hx hb dJ6_bitCount_0f7a4_47 rfl hl (by decide) rfl (fun ls hl => ?_)
  refine lv_iload_n hx hb dJ6_bitCount_0f7a4_48 rfl (lv_at hl 0 rfl) ?_
  refine lv_bipush (v := (63 : Int32)) hx hb dJ6_bitCount_0f7a4_49 (by decide) ?_
  refine lv_iand hx hb dJ6_bitCount_0f7a4_51 ?_
  refine W.widen (k := 0) (n := 0) (Nat.le_of_ble_eq_true rfl) (Nat.le_of_ble_eq_true rfl) ?_
  exact x_iret hx hb hr rfl hlocks B hf dJ6_bitCount_0f7a4_52
theorem dX8_give_0 : decode cX8_give 0 = .ok (.iload_n 1, 1) := by decide +kernel
theorem dX8_give_1 : decode cX8_give 1 = .ok (.invokestatic 55, 3) := by decide +kernel
theorem dX8_give_4 : decode cX8_give 4 = .ok (.iload_n 2, 1) := by decide +kernel
theorem dX8_give_5 : decode cX8_give 5 = .ok (.invokestatic 55, 3) := by decide +kernel
theorem dX8_give_8 : decode cX8_give 8 = .ok (.aload_n 0, 1) := by decide +kernel
theorem dX8_give_9 : decode cX8_give 9 = .ok (.iload_n 3, 1) := by decide +kernel
theorem dX8_give_10 : decode cX8_give 10 = .ok (.invokevirtual 97, 3) := by decide +kernel
theorem dX8_give_13 : decode cX8_give 13 = .ok (.aload_n 0, 1) := by decide +kernel
theorem dX8_give_14 : decode cX8_give 14 = .ok (.iload_n 1, 1) := by decide +kernel
theorem dX8_give_15 : decode cX8_give 15 = .ok (.iload_n 3, 1) := by decide +kernel
theorem dX8_give_16 : decode cX8_give 16 = .ok (.iconst 4, 1) := by decide +kernel
theorem dX8_give_17 : decode cX8_give 17 = .ok (.iconst 0, 1) := by decide +kernel
theorem dX8_give_18 : decode cX8_give 18 = .ok (.invokevirtual 133, 3) := by decide +kernel
theorem dX8_give_21 : decode cX8_give 21 = .ok (.invokestatic 110, 3) := by decide +kernel
theorem dX8_give_24 : decode cX8_give 24 = .ok (.aload_n 0, 1) := by decide +kernel
theorem dX8_give_25 : decode cX8_give 25 = .ok (.getfield 12, 3) := by decide +kernel
theorem dX8_give_28 : decode cX8_give 28 = .ok (.getfield 66, 3) := by decide +kernel
theorem dX8_give_31 : decode cX8_give 31 = .ok (.getfield 137, 3) := by decide +kernel
theorem dX8_give_34 : decode cX8_give 34 = .ok (.iload_n 3, 1) := by decide +kernel
theorem dX8_give_35 : decode cX8_give 35 = .ok (.dup2, 1) := by decide +kernel
theorem dX8_give_36 : decode cX8_give 36 = .ok (.iaload, 1) := by decide +kernel
theorem dX8_give_37 : decode cX8_give 37 = .ok (.iconst 1, 1) := by decide +kernel
theorem dX8_give_38 : decode cX8_give 38 = .ok (.iload_n 2, 1) := by decide +kernel
theorem dX8_give_39 : decode cX8_give 39 = .ok (.ishl, 1) := by decide +kernel
theorem dX8_give_40 : decode cX8_give 40 = .ok (.ior, 1) := by decide +kernel
theorem dX8_give_41 : decode cX8_give 41 = .ok (.iastore, 1) := by decide +kernel
theorem dX8_give_42 : decode cX8_give 42 = .ok (.aload_n 0, 1) := by decide +kernel
theorem dX8_give_43 : decode cX8_give 43 = .ok (.getfield 12, 3) := by decide +kernel
theorem dX8_give_46 : decode cX8_give 46 = .ok (.getfield 66, 3) := by decide +kernel
theorem dX8_give_49 : decode cX8_give 49 = .ok (.getfield 137, 3) := by decide +kernel
theorem dX8_give_52 : decode cX8_give 52 = .ok (.iload_n 3, 1) := by decide +kernel
theorem dX8_give_53 : decode cX8_give 53 = .ok (.iaload, 1) := by decide +kernel
theorem dX8_give_54 : decode cX8_give 54 = .ok (.invokestatic 140, 3) := by decide +kernel
theorem dX8_give_57 : decode cX8_give 57 = .ok (.ireturn, 1) := by decide +kernel
set_option maxRecDepth 20000 in
theorem ggX8_give_X8_needSubject : GoodIn wsX8_give wsX8_needSubject := goodIn_ca (goodIn_r _ [7, 8, 9, 6, 10, 11, 12] (by decide +kernel) (by decide +kernel)) (goodIn_sub (fun _ h => List.mem_cons_of_mem _ (List.mem_append_left _ (List.mem_append_right _ h))) (by decide +kernel))
set_option maxRecDepth 20000 in
theorem gX8_give_X8_needSubject : GoodIn wsX8_give (va_wsS RX8 55 yX8_needSubject wsX8_needSubject) := goodIn_app (goodIn_of _ (by decide +kernel)) ggX8_give_X8_needSubject
set_option maxRecDepth 20000 in
theorem ggX8_give_X8_needToken : GoodIn wsX8_give wsX8_needToken := goodIn_ca (goodIn_r _ [16, 1, 2, 17, 8, 9, 6, 10, 11, 12, 72, 73, 74, 75, 76, 77, 78, 79, 80, 81, 82, 83, 84, 85, 86, 87, 88, 89, 90, 91, 92, 93, 94, 95, 96, 97, 98, 99] (by decide +kernel) (by decide +kernel)) (goodIn_sub (fun _ h => List.mem_cons_of_mem _ (List.mem_append_left _ (List.mem_append_right _ h))) (by decide +kernel))
set_option maxRecDepth 20000 in
theorem gX8_give_X8_needToken : GoodIn wsX8_give (wsV RX8 97 RX8 yX8_needToken wsX8_needToken) := goodIn_app (goodIn_of _ (by decide +kernel)) ggX8_give_X8_needToken
set_option maxRecDepth 20000 in
theorem ggX8_give_X8_isAllowed : GoodIn wsX8_give wsX8_isAllowed := goodIn_ca (goodIn_r _ [21, 22, 1, 23, 2, 24, 25, 26, 27, 28, 6, 29, 3, 30, 31, 32, 33, 34, 35, 36, 37, 38, 39, 40, 41, 42, 43, 44, 45, 46, 47, 48, 49, 50, 51, 52, 53, 54, 55, 56, 57, 58, 59, 72, 73, 74, 75, 76, 77, 78, 79, 80, 81, 82, 83, 84, 85, 86, 87, 88, 89, 90, 91, 92, 93, 94, 95, 96, 97, 98, 99, 100, 101, 102] (by decide +kernel) (by decide +kernel)) (goodIn_sub (fun _ h => List.mem_cons_of_mem _ (List.mem_append_left _ (List.mem_append_left _ (List.mem_append_right _ h)))) (by decide +kernel))
set_option maxRecDepth 20000 in
theorem gX8_give_X8_isAllowed : GoodIn wsX8_give (wsV RX8 133 RX8 yX8_isAllowed wsX8_isAllowed) := goodIn_app (goodIn_of _ (by decide +kernel)) ggX8_give_X8_isAllowed
set_option maxRecDepth 20000 in
theorem ggX8_give_X8_needPermission : GoodIn wsX8_give wsX8_needPermission := goodIn_ca (goodIn_r _ [62, 63, 64] (by decide +kernel) (by decide +kernel)) (goodIn_sub (fun _ h => List.mem_cons_of_mem _ (List.mem_append_right _ h)) (by decide +kernel))
set_option maxRecDepth 20000 in
theorem gX8_give_X8_needPermission : GoodIn wsX8_give (va_wsS RX8 110 yX8_needPermission wsX8_needPermission) := goodIn_app (goodIn_of _ (by decide +kernel)) ggX8_give_X8_needPermission
set_option maxRecDepth 20000 in
theorem ggX8_give_J6_bitCount_0f7a4 : GoodIn wsX8_give wsJ6_bitCount_0f7a4 := goodIn_r _ [68, 69, 70, 71] (by decide +kernel) (by decide +kernel)
set_option maxRecDepth 20000 in
theorem gX8_give_J6_bitCount_0f7a4 : GoodIn wsX8_give (va_wsS RX8 140 yJ6_bitCount_0f7a4 wsJ6_bitCount_0f7a4) := goodIn_app (goodIn_of _ (by decide +kernel)) ggX8_give_J6_bitCount_0f7a4
def rm_X8_give : Room := { frames := 10, cells := 4, slots := 24, locals := 241 }
set_option maxHeartbeats 4000000 in
set_option maxRecDepth 100000 in
theorem c_X8_give (l : Launch) (hfl : l.stackTraces = false) {G : zG} {ad : Nat → Nat} {σ σ' : zs} {a1 a2 a3 : Int32} {ex : Nat} {r : Int32} (hf : f_X8_give σ a1 a2 a3 = some (ex, r, σ')) : xXi l yX8_give wsX8_give rm_X8_give G ad σ [.ref (ad 0), .int a1, .int a2, .int a3] ex r σ' := by
  intro sz nb a g hs
  refine vx_ofW (cc := cX8_give) (maxL := 4) (ret := (some .int)) (by decide) rfl ?_
  intro p e s m args below meth c s₁ B hml hno hv
  obtain ⟨rfl, hsz, hv⟩ := hv
  have hx := B.exec
  have hb := B.bytes
  have hr := B.returns
  have hts := atoms_spec (ws := wsX8_give) B.pre
  have hown : s.vm.findClass RX8 = some m.cls := findClass_of_methodNamed B.named
  have hlocks := B.notSynchronized
  subst hsz
  have B := xB_start hs hv
  have hinRX6 : ∀ w ∈ wsX60, w ∈ wsX8_give := by decide +kernel
  have hinRX7 : ∀ w ∈ wsX70, w ∈ wsX8_give := by decide +kernel
  have hinRX8 : ∀ w ∈ wsX80, w ∈ wsX8_give := by decide +kernel
  have hl := lv_entry ([.ref (ad 0), .int a1, .int a2, .int a3]) (n := 4) (Nat.le_of_ble_eq_true rfl)
  rw [lg_entry_eq]
  generalize (lg_sl ([.ref (ad 0), .int a1, .int a2, .int a3]) ++ List.replicate (4 - (lg_sl ([.ref (ad 0), .int a1, .int a2, .int a3])).length) Slot.unset).toArray = ls at hl ⊢
  have hl : lv_has ls 4 [(0, .ref (ad 0)), (1, .int a1), (2, .int a2), (3, .int a3)] := hl
  generalize hAe : xA ad a s.heap.size = A at B ⊢
  unfold f_X8_give at hf
  refine lv_iload_n hx hb dX8_give_0 rfl (lv_at hl 1 rfl) ?_
  obtain ⟨u1, r2, σ3, hu1, hf⟩ := zx_some hf
  refine x_xv B (fun nb a g hs Bz => vx_runS (As := [.int a1]) (rest := []) ⟨hx, hb, hml, hown, hts⟩ (c_X8_needSubject l hfl hu1 _ nb a g hs) (va_cwS 1 hts gX8_give_X8_needSubject rfl rfl rfl (by decide +kernel) ⟨Nat.le_of_ble_eq_true rfl, Nat.le_of_ble_eq_true rfl⟩) (z_preS Bz) rfl rfl hl.1 rfl (lv_room (Nat.le_of_ble_eq_true rfl)) dX8_give_1 ⟨Nat.le_of_ble_eq_true rfl, Nat.le_of_ble_eq_true rfl⟩) (fun H locs ce q9 h0 B k1 k2 k3 => ?_) (fun H locs h0 B => ?_)
  · exact x_xout hno hlocks (zx_no hf h0) h0 B k1 k2 k3 (Nat.le_of_ble_eq_true rfl) (Nat.le_of_ble_eq_true rfl)
  have hf := zx_ok hf h0
  refine lv_iload_n hx hb dX8_give_4 rfl (lv_at hl 2 rfl) ?_
  obtain ⟨u4, r5, σ6, hu4, hf⟩ := zx_some hf
  refine x_xv B (fun nb a g hs Bz => vx_runS (As := [.int a2]) (rest := []) ⟨hx, hb, hml, hown, hts⟩ (c_X8_needSubject l hfl hu4 _ nb a g hs) (va_cwS 1 hts gX8_give_X8_needSubject rfl rfl rfl (by decide +kernel) ⟨Nat.le_of_ble_eq_true rfl, Nat.le_of_ble_eq_true rfl⟩) (z_preS Bz) rfl rfl hl.1 rfl (lv_room (Nat.le_of_ble_eq_true rfl)) dX8_give_5 ⟨Nat.le_of_ble_eq_true rfl, Nat.le_of_ble_eq_true rfl⟩) (fun H locs ce q9 h0 B k1 k2 k3 => ?_) (fun H locs h0 B => ?_)
  · exact x_xout hno hlocks (zx_no hf h0) h0 B k1 k2 k3 (Nat.le_of_ble_eq_true rfl) (Nat.le_of_ble_eq_true rfl)
  have hf := zx_ok hf h0
  refine lv_aload_n hx hb dX8_give_8 rfl (lv_at hl 0 rfl) ?_
  refine lv_iload_n hx hb dX8_give_9 rfl (lv_at hl 3 rfl) ?_
  obtain ⟨u7, r8, σ9, hu7, hf⟩ := zx_some hf
  refine x_xv B (fun nb a g hs Bz => vx_runV (As := [.int a3]) (rest := []) ⟨hx, hb, hml, hown, hts⟩ (c_X8_needToken l hfl hu7 _ nb a g hs) (cwV 1 hts gX8_give_X8_needToken rfl rfl rfl (by decide +kernel) ⟨Nat.le_of_ble_eq_true rfl, Nat.le_of_ble_eq_true rfl⟩) (x_preV Bz (by decide) (fun _ => rfl) rfl) rfl rfl hl.1 rfl (lv_room (Nat.le_of_ble_eq_true rfl)) dX8_give_10 ⟨Nat.le_of_ble_eq_true rfl, Nat.le_of_ble_eq_true rfl⟩) (fun H locs ce q9 h0 B k1 k2 k3 => ?_) (fun H locs h0 B => ?_)
  · exact x_xout hno hlocks (zx_no hf h0) h0 B k1 k2 k3 (Nat.le_of_ble_eq_true rfl) (Nat.le_of_ble_eq_true rfl)
  have hf := zx_ok hf h0
  refine lv_aload_n hx hb dX8_give_13 rfl (lv_at hl 0 rfl) ?_
  refine lv_iload_n hx hb dX8_give_14 rfl (lv_at hl 1 rfl) ?_
  refine lv_iload_n hx hb dX8_give_15 rfl (lv_at hl 3 rfl) ?_
  refine lv_iconst (v := (4 : Int32)) hx hb dX8_give_16 (by decide) ?_
  refine lv_iconst (v := (0 : Int32)) hx hb dX8_give_17 (by decide) ?_
  obtain ⟨r11, σ12, hu10, hf⟩ := zb_some hf
  refine x_i B (fun nb a g hs Bz => va_runV (As := [.int a1, .int a3, .int (4 : Int32), .int (0 : Int32)]) (rest := []) ⟨hx, hb, hml, hown, hts⟩ (c_X8_isAllowed l hu10 _ nb a g hs) (cwV 4 hts gX8_give_X8_isAllowed rfl rfl rfl (by decide +kernel) ⟨Nat.le_of_ble_eq_true rfl, Nat.le_of_ble_eq_true rfl⟩) (x_preV Bz (by decide) (fun _ => rfl) rfl) rfl rfl hl.1 rfl (lv_room (Nat.le_of_ble_eq_true rfl)) dX8_give_18 ⟨Nat.le_of_ble_eq_true rfl, Nat.le_of_ble_eq_true rfl⟩) (fun H locs B => ?_)
  obtain ⟨u13, r14, σ15, hu13, hf⟩ := zx_some hf
  refine x_xv B (fun nb a g hs Bz => vx_runS (As := [.int r11]) (rest := []) ⟨hx, hb, hml, hown, hts⟩ (c_X8_needPermission l hfl hu13 _ nb a g hs) (va_cwS 1 hts gX8_give_X8_needPermission rfl rfl rfl (by decide +kernel) ⟨Nat.le_of_ble_eq_true rfl, Nat.le_of_ble_eq_true rfl⟩) (z_preS Bz) rfl rfl hl.1 rfl (lv_room (Nat.le_of_ble_eq_true rfl)) dX8_give_21 ⟨Nat.le_of_ble_eq_true rfl, Nat.le_of_ble_eq_true rfl⟩) (fun H locs ce q9 h0 B k1 k2 k3 => ?_) (fun H locs h0 B => ?_)
  · exact x_xout hno hlocks (zx_no hf h0) h0 B k1 k2 k3 (Nat.le_of_ble_eq_true rfl) (Nat.le_of_ble_eq_true rfl)
  have hf := zx_ok hf h0
  refine lv_aload_n hx hb dX8_give_24 rfl (lv_at hl 0 rfl) ?_
  refine x_getr hx hb hts hinRX8 hown B 0 0 1 (by decide) (by decide) (fun _ => rfl) rfl rfl (by decide) (by decide +kernel) rfl dX8_give_25 ?_
  refine x_getr hx hb hts hinRX6 hown B 1 0 2 (by decide) (by decide) (fun _ => rfl) rfl rfl (by decide) (by decide +kernel) rfl dX8_give_28 ?_
  refine x_getr hx hb hts hinRX7 hown B 2 4 6 (by decide) (by decide) (fun _ => rfl) rfl rfl (by decide) (by decide +kernel) rfl dX8_give_31 ?_
  refine lv_iload_n hx hb dX8_give_34 rfl (lv_at hl 3 rfl) ?_
  refine lv_dup2_11 hx hb dX8_give_35 rfl rfl ?_
  obtain ⟨hg, hf⟩ := zg_some hf
  refine x_iald hx hb B 6 (by decide) (fun _ => rfl) (zin_ok hg) dX8_give_36 ?_
  refine lv_iconst (v := (1 : Int32)) hx hb dX8_give_37 (by decide) ?_
  refine lv_iload_n hx hb dX8_give_38 rfl (lv_at hl 2 rfl) ?_
  refine lv_ishl hx hb dX8_give_39 ?_
  refine lv_ior hx hb dX8_give_40 ?_
  obtain ⟨hg, hf⟩ := zg_some hf
  refine x_iast hx hb B 6 (by decide) (by decide) (fun _ => rfl) (zin_ok hg) dX8_give_41 (fun H locs B => ?_)
  refine lv_aload_n hx hb dX8_give_42 rfl (lv_at hl 0 rfl) ?_
  refine x_getr hx hb hts hinRX8 hown B 0 0 1 (by decide) (by decide) (fun _ => rfl) rfl rfl (by decide) (by decide +kernel) rfl dX8_give_43 ?_
  refine x_getr hx hb hts hinRX6 hown B 1 0 2 (by decide) (by decide) (fun _ => rfl) rfl rfl (by decide) (by decide +kernel) rfl dX8_give_46 ?_
  refine x_getr hx hb hts hinRX7 hown B 2 4 6 (by decide) (by decide) (fun _ => rfl) rfl rfl (by decide) (by decide +kernel) rfl dX8_give_49 ?_
  refine lv_iload_n hx hb dX8_give_52 rfl (lv_at hl 3 rfl) ?_
  obtain ⟨hg, hf⟩ := zg_some hf
  refine x_iald hx hb B 6 (by decide) (fun _ => rfl) (zin_ok hg) dX8_give_53 ?_
  obtain ⟨r17, σ18, hu16, hf⟩ := zb_some hf
  refine x_i B (fun nb a g hs Bz => va_runS (As := [.int ((zp σ15 6 a3.toNatClampNeg ((σ15 6 a3.toNatClampNeg) ||| ((1 : Int32) <<< (a2 &&& 31)))) 6 a3.toNatClampNeg)]) (rest := []) ⟨hx, hb, hml, hown, hts⟩ (c_J6_bitCount_0f7a4 l hu16 _ nb a g hs) (va_cwS 1 hts gX8_give_J6_bitCount_0f7a4 rfl rfl rfl (by decide +kernel) ⟨Nat.le_of_ble_eq_true rfl, Nat.le_of_ble_eq_true rfl⟩) (z_preS Bz) rfl rfl hl.1 rfl (lv_room (Nat.le_of_ble_eq_true rfl)) dX8_give_54 ⟨Nat.le_of_ble_eq_true rfl, Nat.le_of_ble_eq_true rfl⟩) (fun H locs B => ?_)
  refine W.widen (k := 4) (n := 24) (Nat.le_of_ble_eq_true rfl) (Nat.le_of_ble_eq_true rfl) ?_
  exact x_xiret hx hb hr rfl hlocks B hf dX8_give_57
theorem dX8_drop_0 : decode cX8_drop 0 = .ok (.iload_n 1, 1) := by decide +kernel
theorem dX8_drop_1 : decode cX8_drop 1 = .ok (.invokestatic 55, 3) := by decide +kernel
theorem dX8_drop_4 : decode cX8_drop 4 = .ok (.aload_n 0, 1) := by decide +kernel
theorem dX8_drop_5 : decode cX8_drop 5 = .ok (.iload_n 2, 1) := by decide +kernel
theorem dX8_drop_6 : decode cX8_drop 6 = .ok (.invokevirtual 97, 3) := by decide +kernel
theorem dX8_drop_9 : decode cX8_drop 9 = .ok (.aload_n 0, 1) := by decide +kernel
theorem dX8_drop_10 : decode cX8_drop 10 = .ok (.getfield 12, 3) := by decide +kernel
theorem dX8_drop_13 : decode cX8_drop 13 = .ok (.getfield 66, 3) := by decide +kernel
theorem dX8_drop_16 : decode cX8_drop 16 = .ok (.getfield 137, 3) := by decide +kernel
theorem dX8_drop_19 : decode cX8_drop 19 = .ok (.iload_n 2, 1) := by decide +kernel
theorem dX8_drop_20 : decode cX8_drop 20 = .ok (.iaload, 1) := by decide +kernel
theorem dX8_drop_21 : decode cX8_drop 21 = .ok (.iload_n 1, 1) := by decide +kernel
theorem dX8_drop_22 : decode cX8_drop 22 = .ok (.invokestatic 146, 3) := by decide +kernel
theorem dX8_drop_25 : decode cX8_drop 25 = .ok (.invokestatic 149, 3) := by decide +kernel
theorem dX8_drop_28 : decode cX8_drop 28 = .ok (.aload_n 0, 1) := by decide +kernel
theorem dX8_drop_29 : decode cX8_drop 29 = .ok (.getfield 12, 3) := by decide +kernel
theorem dX8_drop_32 : decode cX8_drop 32 = .ok (.getfield 66, 3) := by decide +kernel
theorem dX8_drop_35 : decode cX8_drop 35 = .ok (.getfield 137, 3) := by decide +kernel
theorem dX8_drop_38 : decode cX8_drop 38 = .ok (.iload_n 2, 1) := by decide +kernel
theorem dX8_drop_39 : decode cX8_drop 39 = .ok (.dup2, 1) := by decide +kernel
theorem dX8_drop_40 : decode cX8_drop 40 = .ok (.iaload, 1) := by decide +kernel
theorem dX8_drop_41 : decode cX8_drop 41 = .ok (.iconst 1, 1) := by decide +kernel
theorem dX8_drop_42 : decode cX8_drop 42 = .ok (.iload_n 1, 1) := by decide +kernel
theorem dX8_drop_43 : decode cX8_drop 43 = .ok (.ishl, 1) := by decide +kernel
theorem dX8_drop_44 : decode cX8_drop 44 = .ok (.iconst (-1), 1) := by decide +kernel
theorem dX8_drop_45 : decode cX8_drop 45 = .ok (.ixor, 1) := by decide +kernel
theorem dX8_drop_46 : decode cX8_drop 46 = .ok (.iand, 1) := by decide +kernel
theorem dX8_drop_47 : decode cX8_drop 47 = .ok (.iastore, 1) := by decide +kernel
theorem dX8_drop_48 : decode cX8_drop 48 = .ok (.aload_n 0, 1) := by decide +kernel
theorem dX8_drop_49 : decode cX8_drop 49 = .ok (.getfield 12, 3) := by decide +kernel
theorem dX8_drop_52 : decode cX8_drop 52 = .ok (.getfield 66, 3) := by decide +kernel
theorem dX8_drop_55 : decode cX8_drop 55 = .ok (.getfield 137, 3) := by decide +kernel
theorem dX8_drop_58 : decode cX8_drop 58 = .ok (.iload_n 2, 1) := by decide +kernel
theorem dX8_drop_59 : decode cX8_drop 59 = .ok (.iaload, 1) := by decide +kernel
theorem dX8_drop_60 : decode cX8_drop 60 = .ok (.invokestatic 140, 3) := by decide +kernel
theorem dX8_drop_63 : decode cX8_drop 63 = .ok (.ireturn, 1) := by decide +kernel
set_option maxRecDepth 20000 in
theorem ggX8_drop_X8_needSubject : GoodIn wsX8_drop wsX8_needSubject := goodIn_ca (goodIn_r _ [7, 8, 9, 6, 10, 11, 12] (by decide +kernel) (by decide +kernel)) (goodIn_sub (fun _ h => List.mem_cons_of_mem _ (List.mem_append_left _ (List.mem_append_right _ h))) (by decide +kernel))
set_option maxRecDepth 20000 in
theorem gX8_drop_X8_needSubject : GoodIn wsX8_drop (va_wsS RX8 55 yX8_needSubject wsX8_needSubject) := goodIn_app (goodIn_of _ (by decide +kernel)) ggX8_drop_X8_needSubject
set_option maxRecDepth 20000 in
theorem ggX8_drop_X8_needToken : GoodIn wsX8_drop wsX8_needToken := goodIn_ca (goodIn_r _ [16, 1, 2, 17, 8, 9, 6, 10, 11, 12, 33, 34, 35, 36, 37, 38, 39, 40, 41, 42, 43, 44, 45, 46, 47, 48, 49, 50, 51, 52, 53, 54, 55, 56, 57, 58, 59, 60] (by decide +kernel) (by decide +kernel)) (goodIn_sub (fun _ h => List.mem_cons_of_mem _ (List.mem_append_left _ (List.mem_append_right _ h))) (by decide +kernel))
set_option maxRecDepth 20000 in
theorem gX8_drop_X8_needToken : GoodIn wsX8_drop (wsV RX8 97 RX8 yX8_needToken wsX8_needToken) := goodIn_app (goodIn_of _ (by decide +kernel)) ggX8_drop_X8_needToken
set_option maxRecDepth 20000 in
theorem ggX8_drop_X8_hasBit : GoodIn wsX8_drop wsX8_hasBit := goodIn_r _ [20] (by decide +kernel) (by decide +kernel)
set_option maxRecDepth 20000 in
theorem gX8_drop_X8_hasBit : GoodIn wsX8_drop (va_wsS RX8 146 yX8_hasBit wsX8_hasBit) := goodIn_app (goodIn_of _ (by decide +kernel)) ggX8_drop_X8_hasBit
set_option maxRecDepth 20000 in
theorem ggX8_drop_X8_needElement : GoodIn wsX8_drop wsX8_needElement := goodIn_ca (goodIn_r _ [23, 24, 25] (by decide +kernel) (by decide +kernel)) (goodIn_sub (fun _ h => List.mem_cons_of_mem _ (List.mem_append_right _ h)) (by decide +kernel))
set_option maxRecDepth 20000 in
theorem gX8_drop_X8_needElement : GoodIn wsX8_drop (va_wsS RX8 149 yX8_needElement wsX8_needElement) := goodIn_app (goodIn_of _ (by decide +kernel)) ggX8_drop_X8_needElement
set_option maxRecDepth 20000 in
theorem ggX8_drop_J6_bitCount_0f7a4 : GoodIn wsX8_drop wsJ6_bitCount_0f7a4 := goodIn_r _ [29, 30, 31, 32] (by decide +kernel) (by decide +kernel)
set_option maxRecDepth 20000 in
theorem gX8_drop_J6_bitCount_0f7a4 : GoodIn wsX8_drop (va_wsS RX8 140 yJ6_bitCount_0f7a4 wsJ6_bitCount_0f7a4) := goodIn_app (goodIn_of _ (by decide +kernel)) ggX8_drop_J6_bitCount_0f7a4
def rm_X8_drop : Room := { frames := 10, cells := 3, slots := 18, locals := 241 }
set_option maxHeartbeats 4000000 in
set_option maxRecDepth 100000 in
theorem c_X8_drop (l : Launch) (hfl : l.stackTraces = false) {G : zG} {ad : Nat → Nat} {σ σ' : zs} {a1 a2 : Int32} {ex : Nat} {r : Int32} (hf : f_X8_drop σ a1 a2 = some (ex, r, σ')) : xXi l yX8_drop wsX8_drop rm_X8_drop G ad σ [.ref (ad 0), .int a1, .int a2] ex r σ' := by
  intro sz nb a g hs
  refine vx_ofW (cc := cX8_drop) (maxL := 3) (ret := (some .int)) (by decide) rfl ?_
  intro p e s m args below meth c s₁ B hml hno hv
  obtain ⟨rfl, hsz, hv⟩ := hv
  have hx := B.exec
  have hb := B.bytes
  have hr := B.returns
  have hts := atoms_spec (ws := wsX8_drop) B.pre
  have hown : s.vm.findClass RX8 = some m.cls := findClass_of_methodNamed B.named
  have hlocks := B.notSynchronized
  subst hsz
  have B := xB_start hs hv
  have hinRX6 : ∀ w ∈ wsX60, w ∈ wsX8_drop := by decide +kernel
  have hinRX7 : ∀ w ∈ wsX70, w ∈ wsX8_drop := by decide +kernel
  have hinRX8 : ∀ w ∈ wsX80, w ∈ wsX8_drop := by decide +kernel
  have hl := lv_entry ([.ref (ad 0), .int a1, .int a2]) (n := 3) (Nat.le_of_ble_eq_true rfl)
  rw [lg_entry_eq]
  generalize (lg_sl ([.ref (ad 0), .int a1, .int a2]) ++ List.replicate (3 - (lg_sl ([.ref (ad 0), .int a1, .int a2])).length) Slot.unset).toArray = ls at hl ⊢
  have hl : lv_has ls 3 [(0, .ref (ad 0)), (1, .int a1), (2, .int a2)] := hl
  generalize hAe : xA ad a s.heap.size = A at B ⊢
  unfold f_X8_drop at hf
  refine lv_iload_n hx hb dX8_drop_0 rfl (lv_at hl 1 rfl) ?_
  obtain ⟨u1, r2, σ3, hu1, hf⟩ := zx_some hf
  refine x_xv B (fun nb a g hs Bz => vx_runS (As := [.int a1]) (rest := []) ⟨hx, hb, hml, hown, hts⟩ (c_X8_needSubject l hfl hu1 _ nb a g hs) (va_cwS 1 hts gX8_drop_X8_needSubject rfl rfl rfl (by decide +kernel) ⟨Nat.le_of_ble_eq_true rfl, Nat.le_of_ble_eq_true rfl⟩) (z_preS Bz) rfl rfl hl.1 rfl (lv_room (Nat.le_of_ble_eq_true rfl)) dX8_drop_1 ⟨Nat.le_of_ble_eq_true rfl, Nat.le_of_ble_eq_true rfl⟩) (fun H locs ce q9 h0 B k1 k2 k3 => ?_) (fun H locs h0 B => ?_)
  · exact x_xout hno hlocks (zx_no hf h0) h0 B k1 k2 k3 (Nat.le_of_ble_eq_true rfl) (Nat.le_of_ble_eq_true rfl)
  have hf := zx_ok hf h0
  refine lv_aload_n hx hb dX8_drop_4 rfl (lv_at hl 0 rfl) ?_
  refine lv_iload_n hx hb dX8_drop_5 rfl (lv_at hl 2 rfl) ?_
  obtain ⟨u4, r5, σ6, hu4, hf⟩ := zx_some hf
  refine x_xv B (fun nb a g hs Bz => vx_runV (As := [.int a2]) (rest := []) ⟨hx, hb, hml, hown, hts⟩ (c_X8_needToken l hfl hu4 _ nb a g hs) (cwV 1 hts gX8_drop_X8_needToken rfl rfl rfl (by decide +kernel) ⟨Nat.le_of_ble_eq_true rfl, Nat.le_of_ble_eq_true rfl⟩) (x_preV Bz (by decide) (fun _ => rfl) rfl) rfl rfl hl.1 rfl (lv_room (Nat.le_of_ble_eq_true rfl)) dX8_drop_6 ⟨Nat.le_of_ble_eq_true rfl, Nat.le_of_ble_eq_true rfl⟩) (fun H locs ce q9 h0 B k1 k2 k3 => ?_) (fun H locs h0 B => ?_)
  · exact x_xout hno hlocks (zx_no hf h0) h0 B k1 k2 k3 (Nat.le_of_ble_eq_true rfl) (Nat.le_of_ble_eq_true rfl)
  have hf := zx_ok hf h0
  refine lv_aload_n hx hb dX8_drop_9 rfl (lv_at hl 0 rfl) ?_
  refine x_getr hx hb hts hinRX8 hown B 0 0 1 (by decide) (by decide) (fun _ => rfl) rfl rfl (by decide) (by decide +kernel) rfl dX8_drop_10 ?_
  refine x_getr hx hb hts hinRX6 hown B 1 0 2 (by decide) (by decide) (fun _ => rfl) rfl rfl (by decide) (by decide +kernel) rfl dX8_drop_13 ?_
  refine x_getr hx hb hts hinRX7 hown B 2 4 6 (by decide) (by decide) (fun _ => rfl) rfl rfl (by decide) (by decide +kernel) rfl dX8_drop_16 ?_
  refine lv_iload_n hx hb dX8_drop_19 rfl (lv_at hl 2 rfl) ?_
  obtain ⟨hg, hf⟩ := zg_some hf
  refine x_iald hx hb B 6 (by decide) (fun _ => rfl) (zin_ok hg) dX8_drop_20 ?_
  refine lv_iload_n hx hb dX8_drop_21 rfl (lv_at hl 1 rfl) ?_
  obtain ⟨r8, σ9, hu7, hf⟩ := zb_some hf
  refine x_i B (fun nb a g hs Bz => va_runS (As := [.int (σ6 6 a2.toNatClampNeg), .int a1]) (rest := []) ⟨hx, hb, hml, hown, hts⟩ (c_X8_hasBit l hu7 _ nb a g hs) (va_cwS 2 hts gX8_drop_X8_hasBit rfl rfl rfl (by decide +kernel) ⟨Nat.le_of_ble_eq_true rfl, Nat.le_of_ble_eq_true rfl⟩) (z_preS Bz) rfl rfl hl.1 rfl (lv_room (Nat.le_of_ble_eq_true rfl)) dX8_drop_22 ⟨Nat.le_of_ble_eq_true rfl, Nat.le_of_ble_eq_true rfl⟩) (fun H locs B => ?_)
  obtain ⟨u10, r11, σ12, hu10, hf⟩ := zx_some hf
  refine x_xv B (fun nb a g hs Bz => vx_runS (As := [.int r8]) (rest := []) ⟨hx, hb, hml, hown, hts⟩ (c_X8_needElement l hfl hu10 _ nb a g hs) (va_cwS 1 hts gX8_drop_X8_needElement rfl rfl rfl (by decide +kernel) ⟨Nat.le_of_ble_eq_true rfl, Nat.le_of_ble_eq_true rfl⟩) (z_preS Bz) rfl rfl hl.1 rfl (lv_room (Nat.le_of_ble_eq_true rfl)) dX8_drop_25 ⟨Nat.le_of_ble_eq_true rfl, Nat.le_of_ble_eq_true rfl⟩) (fun H locs ce q9 h0 B k1 k2 k3 => ?_) (fun H locs h0 B => ?_)
  · exact x_xout hno hlocks (zx_no hf h0) h0 B k1 k2 k3 (Nat.le_of_ble_eq_true rfl) (Nat.le_of_ble_eq_true rfl)
  have hf := zx_ok hf h0
  refine lv_aload_n hx hb dX8_drop_28 rfl (lv_at hl 0 rfl) ?_
  refine x_getr hx hb hts hinRX8 hown B 0 0 1 (by decide) (by decide) (fun _ => rfl) rfl rfl (by decide) (by decide +kernel) rfl dX8_drop_29 ?_
  refine x_getr hx hb hts hinRX6 hown B 1 0 2 (by decide) (by decide) (fun _ => rfl) rfl rfl (by decide) (by decide +kernel) rfl dX8_drop_32 ?_
  refine x_getr hx hb hts hinRX7 hown B 2 4 6 (by decide) (by decide) (fun _ => rfl) rfl rfl (by decide) (by decide +kernel) rfl dX8_drop_35 ?_
  refine lv_iload_n hx hb dX8_drop_38 rfl (lv_at hl 2 rfl) ?_
  refine lv_dup2_11 hx hb dX8_drop_39 rfl rfl ?_
  obtain ⟨hg, hf⟩ := zg_some hf
  refine x_iald hx hb B 6 (by decide) (fun _ => rfl) (zin_ok hg) dX8_drop_40 ?_
  refine lv_iconst (v := (1 : Int32)) hx hb dX8_drop_41 (by decide) ?_
  refine lv_iload_n hx hb dX8_drop_42 rfl (lv_at hl 1 rfl) ?_
  refine lv_ishl hx hb dX8_drop_43 ?_
  refine lv_iconst (v := (-1 : Int32)) hx hb dX8_drop_44 (by decide) ?_
  refine lv_ixor hx hb dX8_drop_45 ?_
  refine lv_iand hx hb dX8_drop_46 ?_
  obtain ⟨hg, hf⟩ := zg_some hf
  refine x_iast hx hb B 6 (by decide) (by decide) (fun _ => rfl) (zin_ok hg) dX8_drop_47 (fun H locs B => ?_)
  refine lv_aload_n hx hb dX8_drop_48 rfl (lv_at hl 0 rfl) ?_
  refine x_getr hx hb hts hinRX8 hown B 0 0 1 (by decide) (by decide) (fun _ => rfl) rfl rfl (by decide) (by decide +kernel) rfl dX8_drop_49 ?_
  refine x_getr hx hb hts hinRX6 hown B 1 0 2 (by decide) (by decide) (fun _ => rfl) rfl rfl (by decide) (by decide +kernel) rfl dX8_drop_52 ?_
  refine x_getr hx hb hts hinRX7 hown B 2 4 6 (by decide) (by decide) (fun _ => rfl) rfl rfl (by decide) (by decide +kernel) rfl dX8_drop_55 ?_
  refine lv_iload_n hx hb dX8_drop_58 rfl (lv_at hl 2 rfl) ?_
  obtain ⟨hg, hf⟩ := zg_some hf
  refine x_iald hx hb B 6 (by decide) (fun _ => rfl) (zin_ok hg) dX8_drop_59 ?_
  obtain ⟨r14, σ15, hu13, hf⟩ := zb_some hf
  refine x_i B (fun nb a g hs Bz => va_runS (As := [.int ((zp σ12 6 a2.toNatClampNeg ((σ12 6 a2.toNatClampNeg) &&& (((1 : Int32) <<< (a1 &&& 31)) ^^^ (-1 : Int32)))) 6 a2.toNatClampNeg)]) (rest := []) ⟨hx, hb, hml, hown, hts⟩ (c_J6_bitCount_0f7a4 l hu13 _ nb a g hs) (va_cwS 1 hts gX8_drop_J6_bitCount_0f7a4 rfl rfl rfl (by decide +kernel) ⟨Nat.le_of_ble_eq_true rfl, Nat.le_of_ble_eq_true rfl⟩) (z_preS Bz) rfl rfl hl.1 rfl (lv_room (Nat.le_of_ble_eq_true rfl)) dX8_drop_60 ⟨Nat.le_of_ble_eq_true rfl, Nat.le_of_ble_eq_true rfl⟩) (fun H locs B => ?_)
  refine W.widen (k := 3) (n := 18) (Nat.le_of_ble_eq_true rfl) (Nat.le_of_ble_eq_true rfl) ?_
  exact x_xiret hx hb hr rfl hlocks B hf dX8_drop_63
theorem dX8_revoke_0 : decode cX8_revoke 0 = .ok (.iload_n 1, 1) := by decide +kernel
theorem dX8_revoke_1 : decode cX8_revoke 1 = .ok (.invokestatic 55, 3) := by decide +kernel
theorem dX8_revoke_4 : decode cX8_revoke 4 = .ok (.aload_n 0, 1) := by decide +kernel
theorem dX8_revoke_5 : decode cX8_revoke 5 = .ok (.iload_n 2, 1) := by decide +kernel
theorem dX8_revoke_6 : decode cX8_revoke 6 = .ok (.invokevirtual 97, 3) := by decide +kernel
theorem dX8_revoke_9 : decode cX8_revoke 9 = .ok (.aload_n 0, 1) := by decide +kernel
theorem dX8_revoke_10 : decode cX8_revoke 10 = .ok (.getfield 12, 3) := by decide +kernel
theorem dX8_revoke_13 : decode cX8_revoke 13 = .ok (.getfield 66, 3) := by decide +kernel
theorem dX8_revoke_16 : decode cX8_revoke 16 = .ok (.iload_n 1, 1) := by decide +kernel
theorem dX8_revoke_17 : decode cX8_revoke 17 = .ok (.iload_n 2, 1) := by decide +kernel
theorem dX8_revoke_18 : decode cX8_revoke 18 = .ok (.invokevirtual 152, 3) := by decide +kernel
theorem dX8_revoke_21 : decode cX8_revoke 21 = .ok (.istore_n 3, 1) := by decide +kernel
theorem dX8_revoke_22 : decode cX8_revoke 22 = .ok (.iload_n 3, 1) := by decide +kernel
theorem dX8_revoke_23 : decode cX8_revoke 23 = .ok (.ifCond .ne 12, 3) := by decide +kernel
theorem dX8_revoke_26 : decode cX8_revoke 26 = .ok (.aload_n 0, 1) := by decide +kernel
theorem dX8_revoke_27 : decode cX8_revoke 27 = .ok (.getfield 26, 3) := by decide +kernel
theorem dX8_revoke_30 : decode cX8_revoke 30 = .ok (.iconst 1, 1) := by decide +kernel
theorem dX8_revoke_31 : decode cX8_revoke 31 = .ok (.iload_n 2, 1) := by decide +kernel
theorem dX8_revoke_32 : decode cX8_revoke 32 = .ok (.invokevirtual 155, 3) := by decide +kernel
theorem dX8_revoke_35 : decode cX8_revoke 35 = .ok (.iload_n 3, 1) := by decide +kernel
theorem dX8_revoke_36 : decode cX8_revoke 36 = .ok (.invokestatic 110, 3) := by decide +kernel
theorem dX8_revoke_39 : decode cX8_revoke 39 = .ok (.aload_n 0, 1) := by decide +kernel
theorem dX8_revoke_40 : decode cX8_revoke 40 = .ok (.getfield 12, 3) := by decide +kernel
theorem dX8_revoke_43 : decode cX8_revoke 43 = .ok (.getfield 66, 3) := by decide +kernel
theorem dX8_revoke_46 : decode cX8_revoke 46 = .ok (.getfield 159, 3) := by decide +kernel
theorem dX8_revoke_49 : decode cX8_revoke 49 = .ok (.iload_n 2, 1) := by decide +kernel
theorem dX8_revoke_50 : decode cX8_revoke 50 = .ok (.iaload, 1) := by decide +kernel
theorem dX8_revoke_51 : decode cX8_revoke 51 = .ok (.iconst (-1), 1) := by decide +kernel
theorem dX8_revoke_52 : decode cX8_revoke 52 = .ok (.if_icmp .eq 5, 3) := by decide +kernel
theorem dX8_revoke_55 : decode cX8_revoke 55 = .ok (.iconst 0, 1) := by decide +kernel
theorem dX8_revoke_56 : decode cX8_revoke 56 = .ok (.ireturn, 1) := by decide +kernel
theorem dX8_revoke_57 : decode cX8_revoke 57 = .ok (.aload_n 0, 1) := by decide +kernel
theorem dX8_revoke_58 : decode cX8_revoke 58 = .ok (.getfield 12, 3) := by decide +kernel
theorem dX8_revoke_61 : decode cX8_revoke 61 = .ok (.getfield 66, 3) := by decide +kernel
theorem dX8_revoke_64 : decode cX8_revoke 64 = .ok (.iload_n 2, 1) := by decide +kernel
theorem dX8_revoke_65 : decode cX8_revoke 65 = .ok (.invokevirtual 162, 3) := by decide +kernel
theorem dX8_revoke_68 : decode cX8_revoke 68 = .ok (.aload_n 0, 1) := by decide +kernel
theorem dX8_revoke_69 : decode cX8_revoke 69 = .ok (.getfield 12, 3) := by decide +kernel
theorem dX8_revoke_72 : decode cX8_revoke 72 = .ok (.getfield 66, 3) := by decide +kernel
theorem dX8_revoke_75 : decode cX8_revoke 75 = .ok (.invokevirtual 165, 3) := by decide +kernel
theorem dX8_revoke_78 : decode cX8_revoke 78 = .ok (.iand, 1) := by decide +kernel
theorem dX8_revoke_79 : decode cX8_revoke 79 = .ok (.invokestatic 140, 3) := by decide +kernel
theorem dX8_revoke_82 : decode cX8_revoke 82 = .ok (.istore 4, 2) := by decide +kernel
theorem dX8_revoke_84 : decode cX8_revoke 84 = .ok (.aload_n 0, 1) := by decide +kernel
theorem dX8_revoke_85 : decode cX8_revoke 85 = .ok (.getfield 12, 3) := by decide +kernel
theorem dX8_revoke_88 : decode cX8_revoke 88 = .ok (.getfield 66, 3) := by decide +kernel
theorem dX8_revoke_91 : decode cX8_revoke 91 = .ok (.getfield 159, 3) := by decide +kernel
theorem dX8_revoke_94 : decode cX8_revoke 94 = .ok (.iload_n 2, 1) := by decide +kernel
theorem dX8_revoke_95 : decode cX8_revoke 95 = .ok (.iload_n 1, 1) := by decide +kernel
theorem dX8_revoke_96 : decode cX8_revoke 96 = .ok (.iastore, 1) := by decide +kernel
theorem dX8_revoke_97 : decode cX8_revoke 97 = .ok (.iload 4, 2) := by decide +kernel
theorem dX8_revoke_99 : decode cX8_revoke 99 = .ok (.ireturn, 1) := by decide +kernel
set_option maxRecDepth 20000 in
theorem ggX8_revoke_X8_needSubject : GoodIn wsX8_revoke wsX8_needSubject := goodIn_ca (goodIn_r _ [8, 9, 10, 7, 11, 12, 13] (by decide +kernel) (by decide +kernel)) (goodIn_sub (fun _ h => List.mem_cons_of_mem _ (List.mem_append_left _ (List.mem_append_right _ h))) (by decide +kernel))
set_option maxRecDepth 20000 in
theorem gX8_revoke_X8_needSubject : GoodIn wsX8_revoke (va_wsS RX8 55 yX8_needSubject wsX8_needSubject) := goodIn_app (goodIn_of _ (by decide +kernel)) ggX8_revoke_X8_needSubject
set_option maxRecDepth 20000 in
theorem ggX8_revoke_X8_needToken : GoodIn wsX8_revoke wsX8_needToken := goodIn_ca (goodIn_r _ [17, 1, 2, 18, 9, 10, 7, 11, 12, 13, 71, 72, 73, 74, 75, 76, 77, 78, 79, 80, 81, 82, 83, 84, 85, 86, 87, 88, 89, 90, 91, 92, 93, 94, 95, 96, 97, 98] (by decide +kernel) (by decide +kernel)) (goodIn_sub (fun _ h => List.mem_cons_of_mem _ (List.mem_append_left _ (List.mem_append_right _ h))) (by decide +kernel))
set_option maxRecDepth 20000 in
theorem gX8_revoke_X8_needToken : GoodIn wsX8_revoke (wsV RX8 97 RX8 yX8_needToken wsX8_needToken) := goodIn_app (goodIn_of _ (by decide +kernel)) ggX8_revoke_X8_needToken
set_option maxRecDepth 20000 in
theorem ggX8_revoke_X7_holdsOfChain : GoodIn wsX8_revoke wsX7_holdsOfChain := goodIn_ca (goodIn_r _ [23, 24, 25, 26, 27, 7, 28, 87, 88, 89, 90, 91, 92, 93, 94, 95, 96, 97, 98] (by decide +kernel) (by decide +kernel)) (goodIn_sub (fun _ h => List.mem_cons_of_mem _ (List.mem_append_left _ (List.mem_append_left _ (List.mem_append_right _ h)))) (by decide +kernel))
set_option maxRecDepth 20000 in
theorem gX8_revoke_X7_holdsOfChain : GoodIn wsX8_revoke (wsV RX8 152 RX7 yX7_holdsOfChain wsX7_holdsOfChain) := goodIn_app (goodIn_of _ (by decide +kernel)) ggX8_revoke_X7_holdsOfChain
set_option maxRecDepth 20000 in
theorem ggX8_revoke_X8_needPermission : GoodIn wsX8_revoke wsX8_needPermission := goodIn_ca (goodIn_r _ [43, 44, 45] (by decide +kernel) (by decide +kernel)) (goodIn_sub (fun _ h => List.mem_cons_of_mem _ (List.mem_append_right _ h)) (by decide +kernel))
set_option maxRecDepth 20000 in
theorem gX8_revoke_X8_needPermission : GoodIn wsX8_revoke (va_wsS RX8 110 yX8_needPermission wsX8_needPermission) := goodIn_app (goodIn_of _ (by decide +kernel)) ggX8_revoke_X8_needPermission
set_option maxRecDepth 20000 in
theorem ggX8_revoke_X7_setBelow : GoodIn wsX8_revoke wsX7_setBelow := goodIn_ca (goodIn_r _ [49, 50, 51, 52, 53, 22, 54, 24, 26, 87, 88, 89, 90, 91, 92, 93, 94, 95, 96, 97, 98] (by decide +kernel) (by decide +kernel)) (goodIn_sub (fun _ h => List.mem_cons_of_mem _ (List.mem_append_left _ (List.mem_append_left _ (List.mem_append_right _ h)))) (by decide +kernel))
set_option maxRecDepth 20000 in
theorem gX8_revoke_X7_setBelow : GoodIn wsX8_revoke (wsV RX8 162 RX7 yX7_setBelow wsX7_setBelow) := goodIn_app (goodIn_of _ (by decide +kernel)) ggX8_revoke_X7_setBelow
set_option maxRecDepth 20000 in
theorem ggX8_revoke_X7_setOfLiving : GoodIn wsX8_revoke wsX7_setOfLiving := goodIn_ca (goodIn_r _ [58, 50, 59, 60, 61, 22, 62, 24, 63, 26, 87, 88, 89, 90, 91, 92, 93, 94, 95, 96, 97, 98] (by decide +kernel) (by decide +kernel)) (goodIn_sub (fun _ h => List.mem_cons_of_mem _ (List.mem_append_left _ (List.mem_append_left _ (List.mem_append_right _ h)))) (by decide +kernel))
set_option maxRecDepth 20000 in
theorem gX8_revoke_X7_setOfLiving : GoodIn wsX8_revoke (wsV RX8 165 RX7 yX7_setOfLiving wsX7_setOfLiving) := goodIn_app (goodIn_of _ (by decide +kernel)) ggX8_revoke_X7_setOfLiving
set_option maxRecDepth 20000 in
theorem ggX8_revoke_J6_bitCount_0f7a4 : GoodIn wsX8_revoke wsJ6_bitCount_0f7a4 := goodIn_r _ [67, 68, 69, 70] (by decide +kernel) (by decide +kernel)
set_option maxRecDepth 20000 in
theorem gX8_revoke_J6_bitCount_0f7a4 : GoodIn wsX8_revoke (va_wsS RX8 140 yJ6_bitCount_0f7a4 wsJ6_bitCount_0f7a4) := goodIn_app (goodIn_of _ (by decide +kernel)) ggX8_revoke_J6_bitCount_0f7a4
set_option maxRecDepth 20000 in
theorem ggX8_revoke_X5_begin : GoodIn wsX8_revoke wsX5_begin := goodIn_ca (goodIn_r _ [33, 34, 35, 36, 37, 32, 38, 39, 40, 99, 100, 101] (by decide +kernel) (by decide +kernel)) (goodIn_sub (fun _ h => List.mem_cons_of_mem _ (List.mem_append_left _ (List.mem_append_left _ (List.mem_append_right _ h)))) (by decide +kernel))
set_option maxRecDepth 20000 in
theorem gX8_revoke_X5_begin : GoodIn wsX8_revoke (wsV RX8 155 RX5 yX5_begin wsX5_begin) := goodIn_app (goodIn_of _ (by decide +kernel)) ggX8_revoke_X5_begin
def rm_X8_revoke : Room := { frames := 10, cells := 3, slots := 18, locals := 241 }
set_option maxHeartbeats 4000000 in
set_option maxRecDepth 100000 in
theorem c_X8_revoke (l : Launch) (hfl : l.stackTraces = false) {G : zG} {ad : Nat → Nat} {σ σ' : zs} {a1 a2 : Int32} {ex : Nat} {r : Int32} (hf : f_X8_revoke σ a1 a2 = some (ex, r, σ')) : xXi l yX8_revoke wsX8_revoke rm_X8_revoke G ad σ [.ref (ad 0), .int a1, .int a2] ex r σ' := by
  intro sz nb a g hs
  refine vx_ofW (cc := cX8_revoke) (maxL := 5) (ret := (some .int)) (by decide) rfl ?_
  intro p e s m args below meth c s₁ B hml hno hv
  obtain ⟨rfl, hsz, hv⟩ := hv
  have hx := B.exec
  have hb := B.bytes
  have hr := B.returns
  have hts := atoms_spec (ws := wsX8_revoke) B.pre
  have hown : s.vm.findClass RX8 = some m.cls := findClass_of_methodNamed B.named
  have hlocks := B.notSynchronized
  subst hsz
  have B := xB_start hs hv
  have hinRX6 : ∀ w ∈ wsX60, w ∈ wsX8_revoke := by decide +kernel
  have hinRX7 : ∀ w ∈ wsX70, w ∈ wsX8_revoke := by decide +kernel
  have hinRX8 : ∀ w ∈ wsX80, w ∈ wsX8_revoke := by decide +kernel
  have hl := lv_entry ([.ref (ad 0), .int a1, .int a2]) (n := 5) (Nat.le_of_ble_eq_true rfl)
  rw [lg_entry_eq]
  generalize (lg_sl ([.ref (ad 0), .int a1, .int a2]) ++ List.replicate (5 - (lg_sl ([.ref (ad 0), .int a1, .int a2])).length) Slot.unset).toArray = ls at hl ⊢
  have hl : lv_has ls 5 [(0, .ref (ad 0)), (1, .int a1), (2, .int a2)] := hl
  generalize hAe : xA ad a s.heap.size = A at B ⊢
  have L35 : ∀ (σ : zs) (v1 : Int32) (v2 : Int32) (v3 : Int32) (H : Heap) (locs : List Loc) (ls : Array Slot), f_X8_revoke_35 σ v1 v2 v3 = some (ex, r, σ') → xB A s G ad σ H locs → lv_has ls 5 [(0, .ref (ad 0)), (1, .int v1), (2, .int v2), (3, .int v3)] → W p l e (headSpec wsX8_revoke rm_X8_revoke).room s m ([.ref (ad 0), .int a1, .int a2] : List Value).toArray below meth c H locs 2 12 (vx_MQ below (va_Qi (fun r' (u : xV) => (ex = 0 ∧ r' = r) ∧ xQ σ' u) (xPost G ad σ' A) A) (xXC G ad ex σ' A) ([.ref (ad 0), .int a1, .int a2] : List Value).toArray s 3 18 A) (F0 m 35 ls []) := by
    intro σ v1 v2 v3 H locs ls hf B hl
    unfold f_X8_revoke_35 at hf
    refine lv_iload_n hx hb dX8_revoke_35 rfl (lv_at hl 3 rfl) ?_
    obtain ⟨u10, r11, σ12, hu10, hf⟩ := zx_some hf
    refine x_xv B (fun nb a g hs Bz => vx_runS (As := [.int v3]) (rest := []) ⟨hx, hb, hml, hown, hts⟩ (c_X8_needPermission l hfl hu10 _ nb a g hs) (va_cwS 1 hts gX8_revoke_X8_needPermission rfl rfl rfl (by decide +kernel) ⟨Nat.le_of_ble_eq_true rfl, Nat.le_of_ble_eq_true rfl⟩) (z_preS Bz) rfl rfl hl.1 rfl (lv_room (Nat.le_of_ble_eq_true rfl)) dX8_revoke_36 ⟨Nat.le_of_ble_eq_true rfl, Nat.le_of_ble_eq_true rfl⟩) (fun H locs ce q9 h0 B k1 k2 k3 => ?_) (fun H locs h0 B => ?_)
    · exact x_xout hno hlocks (zx_no hf h0) h0 B k1 k2 k3 (Nat.le_of_ble_eq_true rfl) (Nat.le_of_ble_eq_true rfl)
    have hf := zx_ok hf h0
    refine lv_aload_n hx hb dX8_revoke_39 rfl (lv_at hl 0 rfl) ?_
    refine x_getr hx hb hts hinRX8 hown B 0 0 1 (by decide) (by decide) (fun _ => rfl) rfl rfl (by decide) (by decide +kernel) rfl dX8_revoke_40 ?_
    refine x_getr hx hb hts hinRX6 hown B 1 0 2 (by decide) (by decide) (fun _ => rfl) rfl rfl (by decide) (by decide +kernel) rfl dX8_revoke_43 ?_
    refine x_getr hx hb hts hinRX7 hown B 2 6 8 (by decide) (by decide) (fun _ => rfl) rfl rfl (by decide) (by decide +kernel) rfl dX8_revoke_46 ?_
    refine lv_iload_n hx hb dX8_revoke_49 rfl (lv_at hl 2 rfl) ?_
    obtain ⟨hg, hf⟩ := zg_some hf
    refine x_iald hx hb B 8 (by decide) (fun _ => rfl) (zin_ok hg) dX8_revoke_50 ?_
    refine lv_iconst (v := (-1 : Int32)) hx hb dX8_revoke_51 (by decide) ?_
    refine lv_icmp_eq (tgt := 57) hx hb dX8_revoke_52 (by decide) (fun hc => ?_) (fun hc => ?_)
    · have hf := zif_t hc hf
      refine lv_aload_n hx hb dX8_revoke_57 rfl (lv_at hl 0 rfl) ?_
      refine x_getr hx hb hts hinRX8 hown B 0 0 1 (by decide) (by decide) (fun _ => rfl) rfl rfl (by decide) (by decide +kernel) rfl dX8_revoke_58 ?_
      refine x_getr hx hb hts hinRX6 hown B 1 0 2 (by decide) (by decide) (fun _ => rfl) rfl rfl (by decide) (by decide +kernel) rfl dX8_revoke_61 ?_
      refine lv_iload_n hx hb dX8_revoke_64 rfl (lv_at hl 2 rfl) ?_
      obtain ⟨r14, σ15, hu13, hf⟩ := zb_some hf
      refine x_i B (fun nb a g hs Bz => va_runV (As := [.int v2]) (rest := []) ⟨hx, hb, hml, hown, hts⟩ (c_X7_setBelow l hu13 _ nb a g hs) (cwV 1 hts gX8_revoke_X7_setBelow rfl rfl rfl (by decide +kernel) ⟨Nat.le_of_ble_eq_true rfl, Nat.le_of_ble_eq_true rfl⟩) (x_preV Bz (by decide) (fun _ => rfl) rfl) rfl rfl hl.1 rfl (lv_room (Nat.le_of_ble_eq_true rfl)) dX8_revoke_65 ⟨Nat.le_of_ble_eq_true rfl, Nat.le_of_ble_eq_true rfl⟩) (fun H locs B => ?_)
      refine lv_aload_n hx hb dX8_revoke_68 rfl (lv_at hl 0 rfl) ?_
      refine x_getr hx hb hts hinRX8 hown B 0 0 1 (by decide) (by decide) (fun _ => rfl) rfl rfl (by decide) (by decide +kernel) rfl dX8_revoke_69 ?_
      refine x_getr hx hb hts hinRX6 hown B 1 0 2 (by decide) (by decide) (fun _ => rfl) rfl rfl (by decide) (by decide +kernel) rfl dX8_revoke_72 ?_
      obtain ⟨r17, σ18, hu16, hf⟩ := zb_some hf
      refine x_i B (fun nb a g hs Bz => va_runV (As := []) (rest := [.int r14]) ⟨hx, hb, hml, hown, hts⟩ (c_X7_setOfLiving l hu16 _ nb a g hs) (cwV 0 hts gX8_revoke_X7_setOfLiving rfl rfl rfl (by decide +kernel) ⟨Nat.le_of_ble_eq_true rfl, Nat.le_of_ble_eq_true rfl⟩) (x_preV Bz (by decide) (fun _ => rfl) rfl) rfl rfl hl.1 rfl (lv_room (Nat.le_of_ble_eq_true rfl)) dX8_revoke_75 ⟨Nat.le_of_ble_eq_true rfl, Nat.le_of_ble_eq_true rfl⟩) (fun H locs B => ?_)
      refine lv_iand hx hb dX8_revoke_78 ?_
      obtain ⟨r20, σ21, hu19, hf⟩ := zb_some hf
      refine x_i B (fun nb a g hs Bz => va_runS (As := [.int (r14 &&& r17)]) (rest := []) ⟨hx, hb, hml, hown, hts⟩ (c_J6_bitCount_0f7a4 l hu19 _ nb a g hs) (va_cwS 1 hts gX8_revoke_J6_bitCount_0f7a4 rfl rfl rfl (by decide +kernel) ⟨Nat.le_of_ble_eq_true rfl, Nat.le_of_ble_eq_true rfl⟩) (z_preS Bz) rfl rfl hl.1 rfl (lv_room (Nat.le_of_ble_eq_true rfl)) dX8_revoke_79 ⟨Nat.le_of_ble_eq_true rfl, Nat.le_of_ble_eq_true rfl⟩) (fun H locs B => ?_)
      refine lv_istore (lv' := [(4, .int r20), (0, .ref (ad 0)), (1, .int v1), (2, .int v2), (3, .int v3)]) hx hb dX8_revoke_82 hl (by decide) rfl (fun ls hl => ?_)
      refine lv_aload_n hx hb dX8_revoke_84 rfl (lv_at hl 1 rfl) ?_
      refine x_getr hx hb hts hinRX8 hown B 0 0 1 (by decide) (by decide) (fun _ => rfl) rfl rfl (by decide) (by decide +kernel) rfl dX8_revoke_85 ?_
      refine x_getr hx hb hts hinRX6 hown B 1 0 2 (by decide) (by decide) (fun _ => rfl) rfl rfl (by decide) (by decide +kernel) rfl dX8_revoke_88 ?_
      refine x_getr hx hb hts hinRX7 hown B 2 6 8 (by decide) (by decide) (fun _ => rfl) rfl rfl (by decide) (by decide +kernel) rfl dX8_revoke_91 ?_
      refine lv_iload_n hx hb dX8_revoke_94 rfl (lv_at hl 3 rfl) ?_
      refine lv_iload_n hx hb dX8_revoke_95 rfl (lv_at hl 2 rfl) ?_
      obtain ⟨hg, hf⟩ := zg_some hf
      refine x_iast hx hb B 8 (by decide) (by decide) (fun _ => rfl) (zin_ok hg) dX8_revoke_96 (fun H locs B => ?_)
      refine lv_iload hx hb dX8_revoke_97 (lv_at hl 0 rfl) ?_
      refine W.widen (k := 3) (n := 18) (Nat.le_of_ble_eq_true rfl) (Nat.le_of_ble_eq_true rfl) ?_
      exact x_xiret hx hb hr rfl hlocks B hf dX8_revoke_99
    · have hf := zif_f hc hf
      refine lv_iconst (v := (0 : Int32)) hx hb dX8_revoke_55 (by decide) ?_
      refine W.widen (k := 3) (n := 18) (Nat.le_of_ble_eq_true rfl) (Nat.le_of_ble_eq_true rfl) ?_
      exact x_xiret hx hb hr rfl hlocks B hf dX8_revoke_56
  unfold f_X8_revoke at hf
  refine lv_iload_n hx hb dX8_revoke_0 rfl (lv_at hl 1 rfl) ?_
  obtain ⟨u1, r2, σ3, hu1, hf⟩ := zx_some hf
  refine x_xv B (fun nb a g hs Bz => vx_runS (As := [.int a1]) (rest := []) ⟨hx, hb, hml, hown, hts⟩ (c_X8_needSubject l hfl hu1 _ nb a g hs) (va_cwS 1 hts gX8_revoke_X8_needSubject rfl rfl rfl (by decide +kernel) ⟨Nat.le_of_ble_eq_true rfl, Nat.le_of_ble_eq_true rfl⟩) (z_preS Bz) rfl rfl hl.1 rfl (lv_room (Nat.le_of_ble_eq_true rfl)) dX8_revoke_1 ⟨Nat.le_of_ble_eq_true rfl, Nat.le_of_ble_eq_true rfl⟩) (fun H locs ce q9 h0 B k1 k2 k3 => ?_) (fun H locs h0 B => ?_)
  · exact x_xout hno hlocks (zx_no hf h0) h0 B k1 k2 k3 (Nat.le_of_ble_eq_true rfl) (Nat.le_of_ble_eq_true rfl)
  have hf := zx_ok hf h0
  refine lv_aload_n hx hb dX8_revoke_4 rfl (lv_at hl 0 rfl) ?_
  refine lv_iload_n hx hb dX8_revoke_5 rfl (lv_at hl 2 rfl) ?_
  obtain ⟨u4, r5, σ6, hu4, hf⟩ := zx_some hf
  refine x_xv B (fun nb a g hs Bz => vx_runV (As := [.int a2]) (rest := []) ⟨hx, hb, hml, hown, hts⟩ (c_X8_needToken l hfl hu4 _ nb a g hs) (cwV 1 hts gX8_revoke_X8_needToken rfl rfl rfl (by decide +kernel) ⟨Nat.le_of_ble_eq_true rfl, Nat.le_of_ble_eq_true rfl⟩) (x_preV Bz (by decide) (fun _ => rfl) rfl) rfl rfl hl.1 rfl (lv_room (Nat.le_of_ble_eq_true rfl)) dX8_revoke_6 ⟨Nat.le_of_ble_eq_true rfl, Nat.le_of_ble_eq_true rfl⟩) (fun H locs ce q9 h0 B k1 k2 k3 => ?_) (fun H locs h0 B => ?_)
  · exact x_xout hno hlocks (zx_no hf h0) h0 B k1 k2 k3 (Nat.le_of_ble_eq_true rfl) (Nat.le_of_ble_eq_true rfl)
  have hf := zx_ok hf h0
  refine lv_aload_n hx hb dX8_revoke_9 rfl (lv_at hl 0 rfl) ?_
  refine x_getr hx hb hts hinRX8 hown B 0 0 1 (by decide) (by decide) (fun _ => rfl) rfl rfl (by decide) (by decide +kernel) rfl dX8_revoke_10 ?_
  refine x_getr hx hb hts hinRX6 hown B 1 0 2 (by decide) (by decide) (fun _ => rfl) rfl rfl (by decide) (by decide +kernel) rfl dX8_revoke_13 ?_
  refine lv_iload_n hx hb dX8_revoke_16 rfl (lv_at hl 1 rfl) ?_
  refine lv_iload_n hx hb dX8_revoke_17 rfl (lv_at hl 2 rfl) ?_
  obtain ⟨r8, σ9, hu7, hf⟩ := zb_some hf
  refine x_i B (fun nb a g hs Bz => va_runV (As := [.int a1, .int a2]) (rest := []) ⟨hx, hb, hml, hown, hts⟩ (c_X7_holdsOfChain l hu7 _ nb a g hs) (cwV 2 hts gX8_revoke_X7_holdsOfChain rfl rfl rfl (by decide +kernel) ⟨Nat.le_of_ble_eq_true rfl, Nat.le_of_ble_eq_true rfl⟩) (x_preV Bz (by decide) (fun _ => rfl) rfl) rfl rfl hl.1 rfl (lv_room (Nat.le_of_ble_eq_true rfl)) dX8_revoke_18 ⟨Nat.le_of_ble_eq_true rfl, Nat.le_of_ble_eq_true rfl⟩) (fun H locs B => ?_)
  refine lv_istore_n (lv' := [(3, .int r8), (0, .ref (ad 0)), (1, .int a1), (2, .int a2)]) hx hb dX8_revoke_21 rfl hl (by decide) rfl (fun ls hl => ?_)
  refine lv_iload_n hx hb dX8_revoke_22 rfl (lv_at hl 0 rfl) ?_
  refine lv_if_ne (tgt := 35) hx hb dX8_revoke_23 (by decide) (fun hc => ?_) (fun hc => ?_)
  · have hf := zif_f hc hf
    exact L35  _ _ _ _ _ _ _ hf B (lv_sub hl [1, 2, 3, 0] rfl)
  · have hf := zif_t hc hf
    refine lv_aload_n hx hb dX8_revoke_26 rfl (lv_at hl 1 rfl) ?_
    refine x_getr hx hb hts hinRX8 hown B 0 3 49 (by decide) (by decide) (fun _ => rfl) rfl rfl (by decide) (by decide +kernel) rfl dX8_revoke_27 ?_
    refine lv_iconst (v := (1 : Int32)) hx hb dX8_revoke_30 (by decide) ?_
    refine lv_iload_n hx hb dX8_revoke_31 rfl (lv_at hl 3 rfl) ?_
    obtain ⟨r23, σ24, hu22, hf⟩ := zb_some hf
    refine x_v B (fun nb a g hs Bz => va_runV (As := [.int (1 : Int32), .int a2]) (rest := []) ⟨hx, hb, hml, hown, hts⟩ (c_X5_begin l hu22 _ nb a g hs) (cwV 2 hts gX8_revoke_X5_begin rfl rfl rfl (by decide +kernel) ⟨Nat.le_of_ble_eq_true rfl, Nat.le_of_ble_eq_true rfl⟩) (x_preV Bz (by decide) (fun _ => rfl) rfl) rfl rfl hl.1 rfl (lv_room (Nat.le_of_ble_eq_true rfl)) dX8_revoke_32 ⟨Nat.le_of_ble_eq_true rfl, Nat.le_of_ble_eq_true rfl⟩) (fun H locs B => ?_)
    exact L35  _ _ _ _ _ _ _ hf B (lv_sub hl [1, 2, 3, 0] rfl)
theorem dX8_token_0 : decode cX8_token 0 = .ok (.aload_n 0, 1) := by decide +kernel
theorem dX8_token_1 : decode cX8_token 1 = .ok (.iload_n 1, 1) := by decide +kernel
theorem dX8_token_2 : decode cX8_token 2 = .ok (.invokevirtual 97, 3) := by decide +kernel
theorem dX8_token_5 : decode cX8_token 5 = .ok (.iload_n 2, 1) := by decide +kernel
theorem dX8_token_6 : decode cX8_token 6 = .ok (.ifCond .lt 13, 3) := by decide +kernel
theorem dX8_token_9 : decode cX8_token 9 = .ok (.iload_n 2, 1) := by decide +kernel
theorem dX8_token_10 : decode cX8_token 10 = .ok (.bipush 6, 2) := by decide +kernel
theorem dX8_token_12 : decode cX8_token 12 = .ok (.if_icmp .gt 7, 3) := by decide +kernel
theorem dX8_token_15 : decode cX8_token 15 = .ok (.iconst 1, 1) := by decide +kernel
theorem dX8_token_16 : decode cX8_token 16 = .ok (.goto 4, 3) := by decide +kernel
theorem dX8_token_19 : decode cX8_token 19 = .ok (.iconst 0, 1) := by decide +kernel
theorem dX8_token_20 : decode cX8_token 20 = .ok (.invokestatic 62, 3) := by decide +kernel
theorem dX8_token_23 : decode cX8_token 23 = .ok (.aload_n 0, 1) := by decide +kernel
theorem dX8_token_24 : decode cX8_token 24 = .ok (.getfield 12, 3) := by decide +kernel
theorem dX8_token_27 : decode cX8_token 27 = .ok (.getfield 66, 3) := by decide +kernel
theorem dX8_token_30 : decode cX8_token 30 = .ok (.astore_n 3, 1) := by decide +kernel
theorem dX8_token_31 : decode cX8_token 31 = .ok (.iload_n 2, 1) := by decide +kernel
theorem dX8_token_32 : decode cX8_token 32 = .ok (.tableswitch 88 0 5 #[40, 47, 53, 60, 67, 74], 40) := by decide +kernel
theorem dX8_token_72 : decode cX8_token 72 = .ok (.aload_n 3, 1) := by decide +kernel
theorem dX8_token_73 : decode cX8_token 73 = .ok (.getfield 169, 3) := by decide +kernel
theorem dX8_token_76 : decode cX8_token 76 = .ok (.iload_n 1, 1) := by decide +kernel
theorem dX8_token_77 : decode cX8_token 77 = .ok (.iaload, 1) := by decide +kernel
theorem dX8_token_78 : decode cX8_token 78 = .ok (.ireturn, 1) := by decide +kernel
theorem dX8_token_79 : decode cX8_token 79 = .ok (.aload_n 3, 1) := by decide +kernel
theorem dX8_token_80 : decode cX8_token 80 = .ok (.iload_n 1, 1) := by decide +kernel
theorem dX8_token_81 : decode cX8_token 81 = .ok (.invokevirtual 172, 3) := by decide +kernel
theorem dX8_token_84 : decode cX8_token 84 = .ok (.ireturn, 1) := by decide +kernel
theorem dX8_token_85 : decode cX8_token 85 = .ok (.aload_n 3, 1) := by decide +kernel
theorem dX8_token_86 : decode cX8_token 86 = .ok (.getfield 175, 3) := by decide +kernel
theorem dX8_token_89 : decode cX8_token 89 = .ok (.iload_n 1, 1) := by decide +kernel
theorem dX8_token_90 : decode cX8_token 90 = .ok (.iaload, 1) := by decide +kernel
theorem dX8_token_91 : decode cX8_token 91 = .ok (.ireturn, 1) := by decide +kernel
theorem dX8_token_92 : decode cX8_token 92 = .ok (.aload_n 3, 1) := by decide +kernel
theorem dX8_token_93 : decode cX8_token 93 = .ok (.getfield 177, 3) := by decide +kernel
theorem dX8_token_96 : decode cX8_token 96 = .ok (.iload_n 1, 1) := by decide +kernel
theorem dX8_token_97 : decode cX8_token 97 = .ok (.iaload, 1) := by decide +kernel
theorem dX8_token_98 : decode cX8_token 98 = .ok (.ireturn, 1) := by decide +kernel
theorem dX8_token_99 : decode cX8_token 99 = .ok (.aload_n 3, 1) := by decide +kernel
theorem dX8_token_100 : decode cX8_token 100 = .ok (.getfield 116, 3) := by decide +kernel
theorem dX8_token_103 : decode cX8_token 103 = .ok (.iload_n 1, 1) := by decide +kernel
theorem dX8_token_104 : decode cX8_token 104 = .ok (.iaload, 1) := by decide +kernel
theorem dX8_token_105 : decode cX8_token 105 = .ok (.ireturn, 1) := by decide +kernel
theorem dX8_token_106 : decode cX8_token 106 = .ok (.aload_n 3, 1) := by decide +kernel
theorem dX8_token_107 : decode cX8_token 107 = .ok (.iload_n 1, 1) := by decide +kernel
theorem dX8_token_108 : decode cX8_token 108 = .ok (.invokevirtual 180, 3) := by decide +kernel
theorem dX8_token_111 : decode cX8_token 111 = .ok (.ifCond .eq 7, 3) := by decide +kernel
theorem dX8_token_114 : decode cX8_token 114 = .ok (.iconst 1, 1) := by decide +kernel
theorem dX8_token_115 : decode cX8_token 115 = .ok (.goto 4, 3) := by decide +kernel
theorem dX8_token_118 : decode cX8_token 118 = .ok (.iconst 0, 1) := by decide +kernel
theorem dX8_token_119 : decode cX8_token 119 = .ok (.ireturn, 1) := by decide +kernel
theorem dX8_token_120 : decode cX8_token 120 = .ok (.aload_n 3, 1) := by decide +kernel
theorem dX8_token_121 : decode cX8_token 121 = .ok (.iload_n 1, 1) := by decide +kernel
theorem dX8_token_122 : decode cX8_token 122 = .ok (.invokevirtual 183, 3) := by decide +kernel
theorem dX8_token_125 : decode cX8_token 125 = .ok (.ireturn, 1) := by decide +kernel
set_option maxRecDepth 20000 in
theorem ggX8_token_X8_needToken : GoodIn wsX8_token wsX8_needToken := goodIn_ca (goodIn_r _ [11, 1, 2, 12, 13, 14, 10, 15, 16, 17, 41, 42, 43, 44, 45, 46, 47, 48, 49, 50, 51, 52, 53, 54, 55, 56, 57, 58, 59, 60, 61, 62, 63, 64, 65, 66, 67, 68] (by decide +kernel) (by decide +kernel)) (goodIn_sub (fun _ h => List.mem_cons_of_mem _ (List.mem_append_left _ (List.mem_append_right _ h))) (by decide +kernel))
set_option maxRecDepth 20000 in
theorem gX8_token_X8_needToken : GoodIn wsX8_token (wsV RX8 97 RX8 yX8_needToken wsX8_needToken) := goodIn_app (goodIn_of _ (by decide +kernel)) ggX8_token_X8_needToken
set_option maxRecDepth 20000 in
theorem ggX8_token_X8_needArgument : GoodIn wsX8_token wsX8_needArgument := goodIn_ca (goodIn_r _ [20, 21, 22] (by decide +kernel) (by decide +kernel)) (goodIn_sub (fun _ h => List.mem_cons_of_mem _ (List.mem_append_right _ h)) (by decide +kernel))
set_option maxRecDepth 20000 in
theorem gX8_token_X8_needArgument : GoodIn wsX8_token (va_wsS RX8 62 yX8_needArgument wsX8_needArgument) := goodIn_app (goodIn_of _ (by decide +kernel)) ggX8_token_X8_needArgument
set_option maxRecDepth 20000 in
theorem ggX8_token_X7_derivedFrom : GoodIn wsX8_token wsX7_derivedFrom := goodIn_ca (goodIn_r _ [38, 39, 40, 24, 25, 26, 27, 28, 29, 57, 58, 59, 60, 61, 62, 63, 64, 65, 66, 67, 68] (by decide +kernel) (by decide +kernel)) (goodIn_sub (fun _ h => List.mem_cons_of_mem _ (List.mem_append_left _ (List.mem_append_left _ (List.mem_append_right _ h)))) (by decide +kernel))
set_option maxRecDepth 20000 in
theorem gX8_token_X7_derivedFrom : GoodIn wsX8_token (wsV RX8 183 RX7 yX7_derivedFrom wsX7_derivedFrom) := goodIn_app (goodIn_of _ (by decide +kernel)) ggX8_token_X7_derivedFrom
set_option maxRecDepth 20000 in
theorem ggX8_token_X7_parentOf : GoodIn wsX8_token wsX7_parentOf := goodIn_ca (goodIn_r _ [27, 28, 29, 57, 58, 59, 60, 61, 62, 63, 64, 65, 66, 67, 68] (by decide +kernel) (by decide +kernel)) (goodIn_sub (fun _ h => List.mem_cons_of_mem _ (List.mem_append_left _ (List.mem_append_left _ (List.mem_append_right _ h)))) (by decide +kernel))
set_option maxRecDepth 20000 in
theorem gX8_token_X7_parentOf : GoodIn wsX8_token (wsV RX8 172 RX7 yX7_parentOf wsX7_parentOf) := goodIn_app (goodIn_of _ (by decide +kernel)) ggX8_token_X7_parentOf
set_option maxRecDepth 20000 in
theorem ggX8_token_X7_isEnded : GoodIn wsX8_token wsX7_isEnded := goodIn_ca (goodIn_r _ [33, 28, 34, 29, 57, 58, 59, 60, 61, 62, 63, 64, 65, 66, 67, 68] (by decide +kernel) (by decide +kernel)) (goodIn_sub (fun _ h => List.mem_cons_of_mem _ (List.mem_append_left _ (List.mem_append_left _ (List.mem_append_right _ h)))) (by decide +kernel))
set_option maxRecDepth 20000 in
theorem gX8_token_X7_isEnded : GoodIn wsX8_token (wsV RX8 180 RX7 yX7_isEnded wsX7_isEnded) := goodIn_app (goodIn_of _ (by decide +kernel)) ggX8_token_X7_isEnded
def rm_X8_token : Room := { frames := 10, cells := 2, slots := 12, locals := 241 }
set_option maxHeartbeats 4000000 in
set_option maxRecDepth 100000 in
theorem c_X8_token (l : Launch) (hfl : l.stackTraces = false) {G : zG} {ad : Nat → Nat} {σ σ' : zs} {a1 a2 : Int32} {ex : Nat} {r : Int32} (hf : f_X8_token σ a1 a2 = some (ex, r, σ')) : xXi l yX8_token wsX8_token rm_X8_token G ad σ [.ref (ad 0), .int a1, .int a2] ex r σ' := by
  intro sz nb a g hs
  refine vx_ofW (cc := cX8_token) (maxL := 4) (ret := (some .int)) (by decide) rfl ?_
  intro p e s m args below meth c s₁ B hml hno hv
  obtain ⟨rfl, hsz, hv⟩ := hv
  have hx := B.exec
  have hb := B.bytes
  have hr := B.returns
  have hts := atoms_spec (ws := wsX8_token) B.pre
  have hown : s.vm.findClass RX8 = some m.cls := findClass_of_methodNamed B.named
  have hlocks := B.notSynchronized
  subst hsz
  have B := xB_start hs hv
  have hinRX6 : ∀ w ∈ wsX60, w ∈ wsX8_token := by decide +kernel
  have hinRX7 : ∀ w ∈ wsX70, w ∈ wsX8_token := by decide +kernel
  have hinRX8 : ∀ w ∈ wsX80, w ∈ wsX8_token := by decide +kernel
  have hl := lv_entry ([.ref (ad 0), .int a1, .int a2]) (n := 4) (Nat.le_of_ble_eq_true rfl)
  rw [lg_entry_eq]
  generalize (lg_sl ([.ref (ad 0), .int a1, .int a2]) ++ List.replicate (4 - (lg_sl ([.ref (ad 0), .int a1, .int a2])).length) Slot.unset).toArray = ls at hl ⊢
  have hl : lv_has ls 4 [(0, .ref (ad 0)), (1, .int a1), (2, .int a2)] := hl
  generalize hAe : xA ad a s.heap.size = A at B ⊢
  have L20 : ∀ (σ : zs) (v1 : Int32) (v2 : Int32) (s0 : Int32) (H : Heap) (locs : List Loc) (ls : Array Slot), f_X8_token_20 σ v1 v2 s0 = some (ex, r, σ') → xB A s G ad σ H locs → lv_has ls 4 [(0, .ref (ad 0)), (1, .int v1), (2, .int v2)] → W p l e (headSpec wsX8_token rm_X8_token).room s m ([.ref (ad 0), .int a1, .int a2] : List Value).toArray below meth c H locs 1 6 (vx_MQ below (va_Qi (fun r' (u : xV) => (ex = 0 ∧ r' = r) ∧ xQ σ' u) (xPost G ad σ' A) A) (xXC G ad ex σ' A) ([.ref (ad 0), .int a1, .int a2] : List Value).toArray s 2 12 A) (F0 m 20 ls [.int s0]) := by
    intro σ v1 v2 s0 H locs ls hf B hl
    unfold f_X8_token_20 at hf
    obtain ⟨u4, r5, σ6, hu4, hf⟩ := zx_some hf
    refine x_xv B (fun nb a g hs Bz => vx_runS (As := [.int s0]) (rest := []) ⟨hx, hb, hml, hown, hts⟩ (c_X8_needArgument l hfl hu4 _ nb a g hs) (va_cwS 1 hts gX8_token_X8_needArgument rfl rfl rfl (by decide +kernel) ⟨Nat.le_of_ble_eq_true rfl, Nat.le_of_ble_eq_true rfl⟩) (z_preS Bz) rfl rfl hl.1 rfl (lv_room (Nat.le_of_ble_eq_true rfl)) dX8_token_20 ⟨Nat.le_of_ble_eq_true rfl, Nat.le_of_ble_eq_true rfl⟩) (fun H locs ce q9 h0 B k1 k2 k3 => ?_) (fun H locs h0 B => ?_)
    · exact x_xout hno hlocks (zx_no hf h0) h0 B k1 k2 k3 (Nat.le_of_ble_eq_true rfl) (Nat.le_of_ble_eq_true rfl)
    have hf := zx_ok hf h0
    refine lv_aload_n hx hb dX8_token_23 rfl (lv_at hl 0 rfl) ?_
    refine x_getr hx hb hts hinRX8 hown B 0 0 1 (by decide) (by decide) (fun _ => rfl) rfl rfl (by decide) (by decide +kernel) rfl dX8_token_24 ?_
    refine x_getr hx hb hts hinRX6 hown B 1 0 2 (by decide) (by decide) (fun _ => rfl) rfl rfl (by decide) (by decide +kernel) rfl dX8_token_27 ?_
    refine lv_astore_n (lv' := [(3, .ref (ad 2)), (0, .ref (ad 0)), (1, .int v1), (2, .int v2)]) hx hb dX8_token_30 rfl hl (by decide) rfl (fun ls hl => ?_)
    refine lv_iload_n hx hb dX8_token_31 rfl (lv_at hl 3 rfl) ?_
    by_cases hc0 : v2 = (0 : Int32)
    · have hf := zif_t hc0 hf
      refine lv_tableIn (off := 40) (tgt := 72) hx hb dX8_token_32 (by rw [hc0]; decide) (by rw [hc0]; decide) (by rw [hc0]; rfl) (by decide) ?_
      refine lv_aload_n hx hb dX8_token_72 rfl (lv_at hl 0 rfl) ?_
      refine x_getr hx hb hts hinRX7 hown B 2 1 3 (by decide) (by decide) (fun _ => rfl) rfl rfl (by decide) (by decide +kernel) rfl dX8_token_73 ?_
      refine lv_iload_n hx hb dX8_token_76 rfl (lv_at hl 2 rfl) ?_
      obtain ⟨hg, hf⟩ := zg_some hf
      refine x_iald hx hb B 3 (by decide) (fun _ => rfl) (zin_ok hg) dX8_token_77 ?_
      refine W.widen (k := 2) (n := 12) (Nat.le_of_ble_eq_true rfl) (Nat.le_of_ble_eq_true rfl) ?_
      exact x_xiret hx hb hr rfl hlocks B hf dX8_token_78
    have hf := zif_f hc0 hf
    by_cases hc1 : v2 = (1 : Int32)
    · have hf := zif_t hc1 hf
      refine lv_tableIn (off := 47) (tgt := 79) hx hb dX8_token_32 (by rw [hc1]; decide) (by rw [hc1]; decide) (by rw [hc1]; rfl) (by decide) ?_
      refine lv_aload_n hx hb dX8_token_79 rfl (lv_at hl 0 rfl) ?_
      refine lv_iload_n hx hb dX8_token_80 rfl (lv_at hl 2 rfl) ?_
      obtain ⟨r11, σ12, hu10, hf⟩ := zb_some hf
      refine x_i B (fun nb a g hs Bz => va_runV (As := [.int v1]) (rest := []) ⟨hx, hb, hml, hown, hts⟩ (c_X7_parentOf l hu10 _ nb a g hs) (cwV 1 hts gX8_token_X7_parentOf rfl rfl rfl (by decide +kernel) ⟨Nat.le_of_ble_eq_true rfl, Nat.le_of_ble_eq_true rfl⟩) (x_preV Bz (by decide) (fun _ => rfl) rfl) rfl rfl hl.1 rfl (lv_room (Nat.le_of_ble_eq_true rfl)) dX8_token_81 ⟨Nat.le_of_ble_eq_true rfl, Nat.le_of_ble_eq_true rfl⟩) (fun H locs B => ?_)
      refine W.widen (k := 2) (n := 12) (Nat.le_of_ble_eq_true rfl) (Nat.le_of_ble_eq_true rfl) ?_
      exact x_xiret hx hb hr rfl hlocks B hf dX8_token_84
    have hf := zif_f hc1 hf
    by_cases hc2 : v2 = (2 : Int32)
    · have hf := zif_t hc2 hf
      refine lv_tableIn (off := 53) (tgt := 85) hx hb dX8_token_32 (by rw [hc2]; decide) (by rw [hc2]; decide) (by rw [hc2]; rfl) (by decide) ?_
      refine lv_aload_n hx hb dX8_token_85 rfl (lv_at hl 0 rfl) ?_
      refine x_getr hx hb hts hinRX7 hown B 2 7 9 (by decide) (by decide) (fun _ => rfl) rfl rfl (by decide) (by decide +kernel) rfl dX8_token_86 ?_
      refine lv_iload_n hx hb dX8_token_89 rfl (lv_at hl 2 rfl) ?_
      obtain ⟨hg, hf⟩ := zg_some hf
      refine x_iald hx hb B 9 (by decide) (fun _ => rfl) (zin_ok hg) dX8_token_90 ?_
      refine W.widen (k := 2) (n := 12) (Nat.le_of_ble_eq_true rfl) (Nat.le_of_ble_eq_true rfl) ?_
      exact x_xiret hx hb hr rfl hlocks B hf dX8_token_91
    have hf := zif_f hc2 hf
    by_cases hc3 : v2 = (3 : Int32)
    · have hf := zif_t hc3 hf
      refine lv_tableIn (off := 60) (tgt := 92) hx hb dX8_token_32 (by rw [hc3]; decide) (by rw [hc3]; decide) (by rw [hc3]; rfl) (by decide) ?_
      refine lv_aload_n hx hb dX8_token_92 rfl (lv_at hl 0 rfl) ?_
      refine x_getr hx hb hts hinRX7 hown B 2 5 7 (by decide) (by decide) (fun _ => rfl) rfl rfl (by decide) (by decide +kernel) rfl dX8_token_93 ?_
      refine lv_iload_n hx hb dX8_token_96 rfl (lv_at hl 2 rfl) ?_
      obtain ⟨hg, hf⟩ := zg_some hf
      refine x_iald hx hb B 7 (by decide) (fun _ => rfl) (zin_ok hg) dX8_token_97 ?_
      refine W.widen (k := 2) (n := 12) (Nat.le_of_ble_eq_true rfl) (Nat.le_of_ble_eq_true rfl) ?_
      exact x_xiret hx hb hr rfl hlocks B hf dX8_token_98
    have hf := zif_f hc3 hf
    by_cases hc4 : v2 = (4 : Int32)
    · have hf := zif_t hc4 hf
      refine lv_tableIn (off := 67) (tgt := 99) hx hb dX8_token_32 (by rw [hc4]; decide) (by rw [hc4]; decide) (by rw [hc4]; rfl) (by decide) ?_
      refine lv_aload_n hx hb dX8_token_99 rfl (lv_at hl 0 rfl) ?_
      refine x_getr hx hb hts hinRX7 hown B 2 2 4 (by decide) (by decide) (fun _ => rfl) rfl rfl (by decide) (by decide +kernel) rfl dX8_token_100 ?_
      refine lv_iload_n hx hb dX8_token_103 rfl (lv_at hl 2 rfl) ?_
      obtain ⟨hg, hf⟩ := zg_some hf
      refine x_iald hx hb B 4 (by decide) (fun _ => rfl) (zin_ok hg) dX8_token_104 ?_
      refine W.widen (k := 2) (n := 12) (Nat.le_of_ble_eq_true rfl) (Nat.le_of_ble_eq_true rfl) ?_
      exact x_xiret hx hb hr rfl hlocks B hf dX8_token_105
    have hf := zif_f hc4 hf
    by_cases hc5 : v2 = (5 : Int32)
    · have hf := zif_t hc5 hf
      refine lv_tableIn (off := 74) (tgt := 106) hx hb dX8_token_32 (by rw [hc5]; decide) (by rw [hc5]; decide) (by rw [hc5]; rfl) (by decide) ?_
      refine lv_aload_n hx hb dX8_token_106 rfl (lv_at hl 0 rfl) ?_
      refine lv_iload_n hx hb dX8_token_107 rfl (lv_at hl 2 rfl) ?_
      obtain ⟨r14, σ15, hu13, hf⟩ := zb_some hf
      refine x_i B (fun nb a g hs Bz => va_runV (As := [.int v1]) (rest := []) ⟨hx, hb, hml, hown, hts⟩ (c_X7_isEnded l hu13 _ nb a g hs) (cwV 1 hts gX8_token_X7_isEnded rfl rfl rfl (by decide +kernel) ⟨Nat.le_of_ble_eq_true rfl, Nat.le_of_ble_eq_true rfl⟩) (x_preV Bz (by decide) (fun _ => rfl) rfl) rfl rfl hl.1 rfl (lv_room (Nat.le_of_ble_eq_true rfl)) dX8_token_108 ⟨Nat.le_of_ble_eq_true rfl, Nat.le_of_ble_eq_true rfl⟩) (fun H locs B => ?_)
      refine lv_if_eq (tgt := 118) hx hb dX8_token_111 (by decide) (fun hc => ?_) (fun hc => ?_)
      · have hf := zif_t hc hf
        refine lv_iconst (v := (0 : Int32)) hx hb dX8_token_118 (by decide) ?_
        refine W.widen (k := 2) (n := 12) (Nat.le_of_ble_eq_true rfl) (Nat.le_of_ble_eq_true rfl) ?_
        exact x_xiret hx hb hr rfl hlocks B hf dX8_token_119
      · have hf := zif_f hc hf
        refine lv_iconst (v := (1 : Int32)) hx hb dX8_token_114 (by decide) ?_
        refine lv_goto (tgt := 119) hx hb dX8_token_115 (by decide) ?_
        refine W.widen (k := 2) (n := 12) (Nat.le_of_ble_eq_true rfl) (Nat.le_of_ble_eq_true rfl) ?_
        exact x_xiret hx hb hr rfl hlocks B hf dX8_token_119
    have hf := zif_f hc5 hf
    refine lv_tableOut (tgt := 120) hx hb dX8_token_32 (zsw_out (fun j h1 h2 hj => ?_)) (by decide) ?_
    · have hd : j = 0 ∨ j = 1 ∨ j = 2 ∨ j = 3 ∨ j = 4 ∨ j = 5 := by omega
      rcases hd with rfl | rfl | rfl | rfl | rfl | rfl
      · exact hc0 (Int32.toInt_inj.mp (hj.trans (by decide)))
      · exact hc1 (Int32.toInt_inj.mp (hj.trans (by decide)))
      · exact hc2 (Int32.toInt_inj.mp (hj.trans (by decide)))
      · exact hc3 (Int32.toInt_inj.mp (hj.trans (by decide)))
      · exact hc4 (Int32.toInt_inj.mp (hj.trans (by decide)))
      · exact hc5 (Int32.toInt_inj.mp (hj.trans (by decide)))
    refine lv_aload_n hx hb dX8_token_120 rfl (lv_at hl 0 rfl) ?_
    refine lv_iload_n hx hb dX8_token_121 rfl (lv_at hl 2 rfl) ?_
    obtain ⟨r8, σ9, hu7, hf⟩ := zb_some hf
    refine x_i B (fun nb a g hs Bz => va_runV (As := [.int v1]) (rest := []) ⟨hx, hb, hml, hown, hts⟩ (c_X7_derivedFrom l hu7 _ nb a g hs) (cwV 1 hts gX8_token_X7_derivedFrom rfl rfl rfl (by decide +kernel) ⟨Nat.le_of_ble_eq_true rfl, Nat.le_of_ble_eq_true rfl⟩) (x_preV Bz (by decide) (fun _ => rfl) rfl) rfl rfl hl.1 rfl (lv_room (Nat.le_of_ble_eq_true rfl)) dX8_token_122 ⟨Nat.le_of_ble_eq_true rfl, Nat.le_of_ble_eq_true rfl⟩) (fun H locs B => ?_)
    refine W.widen (k := 2) (n := 12) (Nat.le_of_ble_eq_true rfl) (Nat.le_of_ble_eq_true rfl) ?_
    exact x_xiret hx hb hr rfl hlocks B hf dX8_token_125
  unfold f_X8_token at hf
  refine lv_aload_n hx hb dX8_token_0 rfl (lv_at hl 0 rfl) ?_
  refine lv_iload_n hx hb dX8_token_1 rfl (lv_at hl 1 rfl) ?_
  obtain ⟨u1, r2, σ3, hu1, hf⟩ := zx_some hf
  refine x_xv B (fun nb a g hs Bz => vx_runV (As := [.int a1]) (rest := []) ⟨hx, hb, hml, hown, hts⟩ (c_X8_needToken l hfl hu1 _ nb a g hs) (cwV 1 hts gX8_token_X8_needToken rfl rfl rfl (by decide +kernel) ⟨Nat.le_of_ble_eq_true rfl, Nat.le_of_ble_eq_true rfl⟩) (x_preV Bz (by decide) (fun _ => rfl) rfl) rfl rfl hl.1 rfl (lv_room (Nat.le_of_ble_eq_true rfl)) dX8_token_2 ⟨Nat.le_of_ble_eq_true rfl, Nat.le_of_ble_eq_true rfl⟩) (fun H locs ce q9 h0 B k1 k2 k3 => ?_) (fun H locs h0 B => ?_)
  · exact x_xout hno hlocks (zx_no hf h0) h0 B k1 k2 k3 (Nat.le_of_ble_eq_true rfl) (Nat.le_of_ble_eq_true rfl)
  have hf := zx_ok hf h0
  refine lv_iload_n hx hb dX8_token_5 rfl (lv_at hl 2 rfl) ?_
  refine lv_if_lt (tgt := 19) hx hb dX8_token_6 (by decide) (fun hc => ?_) (fun hc => ?_)
  · have hf := zif_t hc hf
    refine lv_iconst (v := (0 : Int32)) hx hb dX8_token_19 (by decide) ?_
    exact L20  _ _ _ _ _ _ _ hf B (lv_sub hl [0, 1, 2] rfl)
  · have hf := zif_f hc hf
    refine lv_iload_n hx hb dX8_token_9 rfl (lv_at hl 2 rfl) ?_
    refine lv_bipush (v := (6 : Int32)) hx hb dX8_token_10 (by decide) ?_
    refine lv_icmp_gt (tgt := 19) hx hb dX8_token_12 (by decide) (fun hc => ?_) (fun hc => ?_)
    · have hf := zif_t hc hf
      refine lv_iconst (v := (0 : Int32)) hx hb dX8_token_19 (by decide) ?_
      exact L20  _ _ _ _ _ _ _ hf B (lv_sub hl [0, 1, 2] rfl)
    · have hf := zif_f hc hf
      refine lv_iconst (v := (1 : Int32)) hx hb dX8_token_15 (by decide) ?_
      refine lv_goto (tgt := 20) hx hb dX8_token_16 (by decide) ?_
      exact L20  _ _ _ _ _ _ _ hf B (lv_sub hl [0, 1, 2] rfl)
theorem dX8_caveat_0 : decode cX8_caveat 0 = .ok (.aload_n 0, 1) := by decide +kernel
theorem dX8_caveat_1 : decode cX8_caveat 1 = .ok (.iload_n 1, 1) := by decide +kernel
theorem dX8_caveat_2 : decode cX8_caveat 2 = .ok (.invokevirtual 97, 3) := by decide +kernel
theorem dX8_caveat_5 : decode cX8_caveat 5 = .ok (.iload_n 2, 1) := by decide +kernel
theorem dX8_caveat_6 : decode cX8_caveat 6 = .ok (.ifCond .lt 23, 3) := by decide +kernel
theorem dX8_caveat_9 : decode cX8_caveat 9 = .ok (.iload_n 2, 1) := by decide +kernel
theorem dX8_caveat_10 : decode cX8_caveat 10 = .ok (.aload_n 0, 1) := by decide +kernel
theorem dX8_caveat_11 : decode cX8_caveat 11 = .ok (.getfield 12, 3) := by decide +kernel
theorem dX8_caveat_14 : decode cX8_caveat 14 = .ok (.getfield 66, 3) := by decide +kernel
theorem dX8_caveat_17 : decode cX8_caveat 17 = .ok (.getfield 175, 3) := by decide +kernel
theorem dX8_caveat_20 : decode cX8_caveat 20 = .ok (.iload_n 1, 1) := by decide +kernel
theorem dX8_caveat_21 : decode cX8_caveat 21 = .ok (.iaload, 1) := by decide +kernel
theorem dX8_caveat_22 : decode cX8_caveat 22 = .ok (.if_icmp .ge 7, 3) := by decide +kernel
theorem dX8_caveat_25 : decode cX8_caveat 25 = .ok (.iconst 1, 1) := by decide +kernel
theorem dX8_caveat_26 : decode cX8_caveat 26 = .ok (.goto 4, 3) := by decide +kernel
theorem dX8_caveat_29 : decode cX8_caveat 29 = .ok (.iconst 0, 1) := by decide +kernel
theorem dX8_caveat_30 : decode cX8_caveat 30 = .ok (.invokestatic 186, 3) := by decide +kernel
theorem dX8_caveat_33 : decode cX8_caveat 33 = .ok (.iload_n 3, 1) := by decide +kernel
theorem dX8_caveat_34 : decode cX8_caveat 34 = .ok (.ifCond .lt 12, 3) := by decide +kernel
theorem dX8_caveat_37 : decode cX8_caveat 37 = .ok (.iload_n 3, 1) := by decide +kernel
theorem dX8_caveat_38 : decode cX8_caveat 38 = .ok (.iconst 2, 1) := by decide +kernel
theorem dX8_caveat_39 : decode cX8_caveat 39 = .ok (.if_icmp .gt 7, 3) := by decide +kernel
theorem dX8_caveat_42 : decode cX8_caveat 42 = .ok (.iconst 1, 1) := by decide +kernel
theorem dX8_caveat_43 : decode cX8_caveat 43 = .ok (.goto 4, 3) := by decide +kernel
theorem dX8_caveat_46 : decode cX8_caveat 46 = .ok (.iconst 0, 1) := by decide +kernel
theorem dX8_caveat_47 : decode cX8_caveat 47 = .ok (.invokestatic 62, 3) := by decide +kernel
theorem dX8_caveat_50 : decode cX8_caveat 50 = .ok (.iload_n 1, 1) := by decide +kernel
theorem dX8_caveat_51 : decode cX8_caveat 51 = .ok (.iconst 4, 1) := by decide +kernel
theorem dX8_caveat_52 : decode cX8_caveat 52 = .ok (.imul, 1) := by decide +kernel
theorem dX8_caveat_53 : decode cX8_caveat 53 = .ok (.iload_n 2, 1) := by decide +kernel
theorem dX8_caveat_54 : decode cX8_caveat 54 = .ok (.iadd, 1) := by decide +kernel
theorem dX8_caveat_55 : decode cX8_caveat 55 = .ok (.istore 4, 2) := by decide +kernel
theorem dX8_caveat_57 : decode cX8_caveat 57 = .ok (.iload_n 3, 1) := by decide +kernel
theorem dX8_caveat_58 : decode cX8_caveat 58 = .ok (.lookupswitch 54 #[(0, 26), (1, 40)], 26) := by decide +kernel
theorem dX8_caveat_84 : decode cX8_caveat 84 = .ok (.aload_n 0, 1) := by decide +kernel
theorem dX8_caveat_85 : decode cX8_caveat 85 = .ok (.getfield 12, 3) := by decide +kernel
theorem dX8_caveat_88 : decode cX8_caveat 88 = .ok (.getfield 66, 3) := by decide +kernel
theorem dX8_caveat_91 : decode cX8_caveat 91 = .ok (.getfield 189, 3) := by decide +kernel
theorem dX8_caveat_94 : decode cX8_caveat 94 = .ok (.iload 4, 2) := by decide +kernel
theorem dX8_caveat_96 : decode cX8_caveat 96 = .ok (.iaload, 1) := by decide +kernel
theorem dX8_caveat_97 : decode cX8_caveat 97 = .ok (.ireturn, 1) := by decide +kernel
theorem dX8_caveat_98 : decode cX8_caveat 98 = .ok (.aload_n 0, 1) := by decide +kernel
theorem dX8_caveat_99 : decode cX8_caveat 99 = .ok (.getfield 12, 3) := by decide +kernel
theorem dX8_caveat_102 : decode cX8_caveat 102 = .ok (.getfield 66, 3) := by decide +kernel
theorem dX8_caveat_105 : decode cX8_caveat 105 = .ok (.getfield 190, 3) := by decide +kernel
theorem dX8_caveat_108 : decode cX8_caveat 108 = .ok (.iload 4, 2) := by decide +kernel
theorem dX8_caveat_110 : decode cX8_caveat 110 = .ok (.iaload, 1) := by decide +kernel
theorem dX8_caveat_111 : decode cX8_caveat 111 = .ok (.ireturn, 1) := by decide +kernel
theorem dX8_caveat_112 : decode cX8_caveat 112 = .ok (.aload_n 0, 1) := by decide +kernel
theorem dX8_caveat_113 : decode cX8_caveat 113 = .ok (.getfield 12, 3) := by decide +kernel
theorem dX8_caveat_116 : decode cX8_caveat 116 = .ok (.getfield 66, 3) := by decide +kernel
theorem dX8_caveat_119 : decode cX8_caveat 119 = .ok (.getfield 191, 3) := by decide +kernel
theorem dX8_caveat_122 : decode cX8_caveat 122 = .ok (.iload 4, 2) := by decide +kernel
theorem dX8_caveat_124 : decode cX8_caveat 124 = .ok (.iaload, 1) := by decide +kernel
theorem dX8_caveat_125 : decode cX8_caveat 125 = .ok (.ireturn, 1) := by decide +kernel
set_option maxRecDepth 20000 in
theorem ggX8_caveat_X8_needToken : GoodIn wsX8_caveat wsX8_needToken := goodIn_ca (goodIn_r _ [11, 1, 2, 12, 13, 14, 10, 15, 16, 17, 23, 24, 25, 26, 27, 28, 29, 30, 31, 32, 33, 34, 35, 36, 37, 38, 39, 40, 41, 42, 43, 44, 45, 46, 47, 48, 49, 50] (by decide +kernel) (by decide +kernel)) (goodIn_sub (fun _ h => List.mem_cons_of_mem _ (List.mem_append_left _ (List.mem_append_right _ h))) (by decide +kernel))
set_option maxRecDepth 20000 in
theorem gX8_caveat_X8_needToken : GoodIn wsX8_caveat (wsV RX8 97 RX8 yX8_needToken wsX8_needToken) := goodIn_app (goodIn_of _ (by decide +kernel)) ggX8_caveat_X8_needToken
set_option maxRecDepth 20000 in
theorem ggX8_caveat_X8_needIndex : GoodIn wsX8_caveat wsX8_needIndex := goodIn_ca (goodIn_r _ [15, 16, 17] (by decide +kernel) (by decide +kernel)) (goodIn_sub (fun _ h => List.mem_cons_of_mem _ (List.mem_append_left _ (List.mem_append_right _ h))) (by decide +kernel))
set_option maxRecDepth 20000 in
theorem gX8_caveat_X8_needIndex : GoodIn wsX8_caveat (va_wsS RX8 186 yX8_needIndex wsX8_needIndex) := goodIn_app (goodIn_of _ (by decide +kernel)) ggX8_caveat_X8_needIndex
set_option maxRecDepth 20000 in
theorem ggX8_caveat_X8_needArgument : GoodIn wsX8_caveat wsX8_needArgument := goodIn_ca (goodIn_r _ [20, 21, 22] (by decide +kernel) (by decide +kernel)) (goodIn_sub (fun _ h => List.mem_cons_of_mem _ (List.mem_append_right _ h)) (by decide +kernel))
set_option maxRecDepth 20000 in
theorem gX8_caveat_X8_needArgument : GoodIn wsX8_caveat (va_wsS RX8 62 yX8_needArgument wsX8_needArgument) := goodIn_app (goodIn_of _ (by decide +kernel)) ggX8_caveat_X8_needArgument
def rm_X8_caveat : Room := { frames := 10, cells := 3, slots := 18, locals := 241 }
set_option maxHeartbeats 4000000 in
set_option maxRecDepth 100000 in
theorem c_X8_caveat (l : Launch) (hfl : l.stackTraces = false) {G : zG} {ad : Nat → Nat} {σ σ' : zs} {a1 a2 a3 : Int32} {ex : Nat} {r : Int32} (hf : f_X8_caveat σ a1 a2 a3 = some (ex, r, σ')) : xXi l yX8_caveat wsX8_caveat rm_X8_caveat G ad σ [.ref (ad 0), .int a1, .int a2, .int a3] ex r σ' := by
  intro sz nb a g hs
  refine vx_ofW (cc := cX8_caveat) (maxL := 5) (ret := (some .int)) (by decide) rfl ?_
  intro p e s m args below meth c s₁ B hml hno hv
  obtain ⟨rfl, hsz, hv⟩ := hv
  have hx := B.exec
  have hb := B.bytes
  have hr := B.returns
  have hts := atoms_spec (ws := wsX8_caveat) B.pre
  have hown : s.vm.findClass RX8 = some m.cls := findClass_of_methodNamed B.named
  have hlocks := B.notSynchronized
  subst hsz
  have B := xB_start hs hv
  have hinRX6 : ∀ w ∈ wsX60, w ∈ wsX8_caveat := by decide +kernel
  have hinRX7 : ∀ w ∈ wsX70, w ∈ wsX8_caveat := by decide +kernel
  have hinRX8 : ∀ w ∈ wsX80, w ∈ wsX8_caveat := by decide +kernel
  have hl := lv_entry ([.ref (ad 0), .int a1, .int a2, .int a3]) (n := 5) (Nat.le_of_ble_eq_true rfl)
  rw [lg_entry_eq]
  generalize (lg_sl ([.ref (ad 0), .int a1, .int a2, .int a3]) ++ List.replicate (5 - (lg_sl ([.ref (ad 0), .int a1, .int a2, .int a3])).length) Slot.unset).toArray = ls at hl ⊢
  have hl : lv_has ls 5 [(0, .ref (ad 0)), (1, .int a1), (2, .int a2), (3, .int a3)] := hl
  generalize hAe : xA ad a s.heap.size = A at B ⊢
  have L47 : ∀ (σ : zs) (v1 : Int32) (v2 : Int32) (v3 : Int32) (s0 : Int32) (H : Heap) (locs : List Loc) (ls : Array Slot), f_X8_caveat_47 σ v1 v2 v3 s0 = some (ex, r, σ') → xB A s G ad σ H locs → lv_has ls 5 [(0, .ref (ad 0)), (1, .int v1), (2, .int v2), (3, .int v3)] → W p l e (headSpec wsX8_caveat rm_X8_caveat).room s m ([.ref (ad 0), .int a1, .int a2, .int a3] : List Value).toArray below meth c H locs 2 12 (vx_MQ below (va_Qi (fun r' (u : xV) => (ex = 0 ∧ r' = r) ∧ xQ σ' u) (xPost G ad σ' A) A) (xXC G ad ex σ' A) ([.ref (ad 0), .int a1, .int a2, .int a3] : List Value).toArray s 3 18 A) (F0 m 47 ls [.int s0]) := by
    intro σ v1 v2 v3 s0 H locs ls hf B hl
    unfold f_X8_caveat_47 at hf
    obtain ⟨u7, r8, σ9, hu7, hf⟩ := zx_some hf
    refine x_xv B (fun nb a g hs Bz => vx_runS (As := [.int s0]) (rest := []) ⟨hx, hb, hml, hown, hts⟩ (c_X8_needArgument l hfl hu7 _ nb a g hs) (va_cwS 1 hts gX8_caveat_X8_needArgument rfl rfl rfl (by decide +kernel) ⟨Nat.le_of_ble_eq_true rfl, Nat.le_of_ble_eq_true rfl⟩) (z_preS Bz) rfl rfl hl.1 rfl (lv_room (Nat.le_of_ble_eq_true rfl)) dX8_caveat_47 ⟨Nat.le_of_ble_eq_true rfl, Nat.le_of_ble_eq_true rfl⟩) (fun H locs ce q9 h0 B k1 k2 k3 => ?_) (fun H locs h0 B => ?_)
    · exact x_xout hno hlocks (zx_no hf h0) h0 B k1 k2 k3 (Nat.le_of_ble_eq_true rfl) (Nat.le_of_ble_eq_true rfl)
    have hf := zx_ok hf h0
    refine lv_iload_n hx hb dX8_caveat_50 rfl (lv_at hl 1 rfl) ?_
    refine lv_iconst (v := (4 : Int32)) hx hb dX8_caveat_51 (by decide) ?_
    refine lv_imul hx hb dX8_caveat_52 ?_
    refine lv_iload_n hx hb dX8_caveat_53 rfl (lv_at hl 2 rfl) ?_
    refine lv_iadd hx hb dX8_caveat_54 ?_
    refine lv_istore (lv' := [(4, .int ((v1 * (4 : Int32)) + v2)), (0, .ref (ad 0)), (1, .int v1), (2, .int v2), (3, .int v3)]) hx hb dX8_caveat_55 hl (by decide) rfl (fun ls hl => ?_)
    refine lv_iload_n hx hb dX8_caveat_57 rfl (lv_at hl 4 rfl) ?_
    by_cases hc0 : v3 = (0 : Int32)
    · have hf := zif_t hc0 hf
      refine lv_lookup (off := 26) (tgt := 84) hx hb dX8_caveat_58 (by decide) (by rw [hc0]; decide) (by decide) ?_
      refine lv_aload_n hx hb dX8_caveat_84 rfl (lv_at hl 1 rfl) ?_
      refine x_getr hx hb hts hinRX8 hown B 0 0 1 (by decide) (by decide) (fun _ => rfl) rfl rfl (by decide) (by decide +kernel) rfl dX8_caveat_85 ?_
      refine x_getr hx hb hts hinRX6 hown B 1 0 2 (by decide) (by decide) (fun _ => rfl) rfl rfl (by decide) (by decide +kernel) rfl dX8_caveat_88 ?_
      refine x_getr hx hb hts hinRX7 hown B 2 8 10 (by decide) (by decide) (fun _ => rfl) rfl rfl (by decide) (by decide +kernel) rfl dX8_caveat_91 ?_
      refine lv_iload hx hb dX8_caveat_94 (lv_at hl 0 rfl) ?_
      obtain ⟨hg, hf⟩ := zg_some hf
      refine x_iald hx hb B 10 (by decide) (fun _ => rfl) (zin_ok hg) dX8_caveat_96 ?_
      refine W.widen (k := 3) (n := 18) (Nat.le_of_ble_eq_true rfl) (Nat.le_of_ble_eq_true rfl) ?_
      exact x_xiret hx hb hr rfl hlocks B hf dX8_caveat_97
    have hf := zif_f hc0 hf
    by_cases hc1 : v3 = (1 : Int32)
    · have hf := zif_t hc1 hf
      refine lv_lookup (off := 40) (tgt := 98) hx hb dX8_caveat_58 (by decide) (by rw [hc1]; decide) (by decide) ?_
      refine lv_aload_n hx hb dX8_caveat_98 rfl (lv_at hl 1 rfl) ?_
      refine x_getr hx hb hts hinRX8 hown B 0 0 1 (by decide) (by decide) (fun _ => rfl) rfl rfl (by decide) (by decide +kernel) rfl dX8_caveat_99 ?_
      refine x_getr hx hb hts hinRX6 hown B 1 0 2 (by decide) (by decide) (fun _ => rfl) rfl rfl (by decide) (by decide +kernel) rfl dX8_caveat_102 ?_
      refine x_getr hx hb hts hinRX7 hown B 2 9 11 (by decide) (by decide) (fun _ => rfl) rfl rfl (by decide) (by decide +kernel) rfl dX8_caveat_105 ?_
      refine lv_iload hx hb dX8_caveat_108 (lv_at hl 0 rfl) ?_
      obtain ⟨hg, hf⟩ := zg_some hf
      refine x_iald hx hb B 11 (by decide) (fun _ => rfl) (zin_ok hg) dX8_caveat_110 ?_
      refine W.widen (k := 3) (n := 18) (Nat.le_of_ble_eq_true rfl) (Nat.le_of_ble_eq_true rfl) ?_
      exact x_xiret hx hb hr rfl hlocks B hf dX8_caveat_111
    have hf := zif_f hc1 hf
    refine lv_lookup (off := 54) (tgt := 112) hx hb dX8_caveat_58 (by decide) (zlk2 hc0 hc1) (by decide) ?_
    refine lv_aload_n hx hb dX8_caveat_112 rfl (lv_at hl 1 rfl) ?_
    refine x_getr hx hb hts hinRX8 hown B 0 0 1 (by decide) (by decide) (fun _ => rfl) rfl rfl (by decide) (by decide +kernel) rfl dX8_caveat_113 ?_
    refine x_getr hx hb hts hinRX6 hown B 1 0 2 (by decide) (by decide) (fun _ => rfl) rfl rfl (by decide) (by decide +kernel) rfl dX8_caveat_116 ?_
    refine x_getr hx hb hts hinRX7 hown B 2 10 12 (by decide) (by decide) (fun _ => rfl) rfl rfl (by decide) (by decide +kernel) rfl dX8_caveat_119 ?_
    refine lv_iload hx hb dX8_caveat_122 (lv_at hl 0 rfl) ?_
    obtain ⟨hg, hf⟩ := zg_some hf
    refine x_iald hx hb B 12 (by decide) (fun _ => rfl) (zin_ok hg) dX8_caveat_124 ?_
    refine W.widen (k := 3) (n := 18) (Nat.le_of_ble_eq_true rfl) (Nat.le_of_ble_eq_true rfl) ?_
    exact x_xiret hx hb hr rfl hlocks B hf dX8_caveat_125
  have L30 : ∀ (σ : zs) (v1 : Int32) (v2 : Int32) (v3 : Int32) (s0 : Int32) (H : Heap) (locs : List Loc) (ls : Array Slot), f_X8_caveat_30 σ v1 v2 v3 s0 = some (ex, r, σ') → xB A s G ad σ H locs → lv_has ls 5 [(0, .ref (ad 0)), (1, .int v1), (2, .int v2), (3, .int v3)] → W p l e (headSpec wsX8_caveat rm_X8_caveat).room s m ([.ref (ad 0), .int a1, .int a2, .int a3] : List Value).toArray below meth c H locs 1 6 (vx_MQ below (va_Qi (fun r' (u : xV) => (ex = 0 ∧ r' = r) ∧ xQ σ' u) (xPost G ad σ' A) A) (xXC G ad ex σ' A) ([.ref (ad 0), .int a1, .int a2, .int a3] : List Value).toArray s 3 18 A) (F0 m 30 ls [.int s0]) := by
    intro σ v1 v2 v3 s0 H locs ls hf B hl
    unfold f_X8_caveat_30 at hf
    obtain ⟨u4, r5, σ6, hu4, hf⟩ := zx_some hf
    refine x_xv B (fun nb a g hs Bz => vx_runS (As := [.int s0]) (rest := []) ⟨hx, hb, hml, hown, hts⟩ (c_X8_needIndex l hfl hu4 _ nb a g hs) (va_cwS 1 hts gX8_caveat_X8_needIndex rfl rfl rfl (by decide +kernel) ⟨Nat.le_of_ble_eq_true rfl, Nat.le_of_ble_eq_true rfl⟩) (z_preS Bz) rfl rfl hl.1 rfl (lv_room (Nat.le_of_ble_eq_true rfl)) dX8_caveat_30 ⟨Nat.le_of_ble_eq_true rfl, Nat.le_of_ble_eq_true rfl⟩) (fun H locs ce q9 h0 B k1 k2 k3 => ?_) (fun H locs h0 B => ?_)
    · exact x_xout hno hlocks (zx_no hf h0) h0 B k1 k2 k3 (Nat.le_of_ble_eq_true rfl) (Nat.le_of_ble_eq_true rfl)
    have hf := zx_ok hf h0
    refine lv_iload_n hx hb dX8_caveat_33 rfl (lv_at hl 3 rfl) ?_
    refine lv_if_lt (tgt := 46) hx hb dX8_caveat_34 (by decide) (fun hc => ?_) (fun hc => ?_)
    · have hf := zif_t hc hf
      refine lv_iconst (v := (0 : Int32)) hx hb dX8_caveat_46 (by decide) ?_
      exact L47  _ _ _ _ _ _ _ _ hf B (lv_sub hl [0, 1, 2, 3] rfl)
    · have hf := zif_f hc hf
      refine lv_iload_n hx hb dX8_caveat_37 rfl (lv_at hl 3 rfl) ?_
      refine lv_iconst (v := (2 : Int32)) hx hb dX8_caveat_38 (by decide) ?_
      refine lv_icmp_gt (tgt := 46) hx hb dX8_caveat_39 (by decide) (fun hc => ?_) (fun hc => ?_)
      · have hf := zif_t hc hf
        refine lv_iconst (v := (0 : Int32)) hx hb dX8_caveat_46 (by decide) ?_
        exact L47  _ _ _ _ _ _ _ _ hf B (lv_sub hl [0, 1, 2, 3] rfl)
      · have hf := zif_f hc hf
        refine lv_iconst (v := (1 : Int32)) hx hb dX8_caveat_42 (by decide) ?_
        refine lv_goto (tgt := 47) hx hb dX8_caveat_43 (by decide) ?_
        exact L47  _ _ _ _ _ _ _ _ hf B (lv_sub hl [0, 1, 2, 3] rfl)
  unfold f_X8_caveat at hf
  refine lv_aload_n hx hb dX8_caveat_0 rfl (lv_at hl 0 rfl) ?_
  refine lv_iload_n hx hb dX8_caveat_1 rfl (lv_at hl 1 rfl) ?_
  obtain ⟨u1, r2, σ3, hu1, hf⟩ := zx_some hf
  refine x_xv B (fun nb a g hs Bz => vx_runV (As := [.int a1]) (rest := []) ⟨hx, hb, hml, hown, hts⟩ (c_X8_needToken l hfl hu1 _ nb a g hs) (cwV 1 hts gX8_caveat_X8_needToken rfl rfl rfl (by decide +kernel) ⟨Nat.le_of_ble_eq_true rfl, Nat.le_of_ble_eq_true rfl⟩) (x_preV Bz (by decide) (fun _ => rfl) rfl) rfl rfl hl.1 rfl (lv_room (Nat.le_of_ble_eq_true rfl)) dX8_caveat_2 ⟨Nat.le_of_ble_eq_true rfl, Nat.le_of_ble_eq_true rfl⟩) (fun H locs ce q9 h0 B k1 k2 k3 => ?_) (fun H locs h0 B => ?_)
  · exact x_xout hno hlocks (zx_no hf h0) h0 B k1 k2 k3 (Nat.le_of_ble_eq_true rfl) (Nat.le_of_ble_eq_true rfl)
  have hf := zx_ok hf h0
  refine lv_iload_n hx hb dX8_caveat_5 rfl (lv_at hl 2 rfl) ?_
  refine lv_if_lt (tgt := 29) hx hb dX8_caveat_6 (by decide) (fun hc => ?_) (fun hc => ?_)
  · have hf := zif_t hc hf
    refine lv_iconst (v := (0 : Int32)) hx hb dX8_caveat_29 (by decide) ?_
    exact L30  _ _ _ _ _ _ _ _ hf B (lv_sub hl [0, 1, 2, 3] rfl)
  · have hf := zif_f hc hf
    refine lv_iload_n hx hb dX8_caveat_9 rfl (lv_at hl 2 rfl) ?_
    refine lv_aload_n hx hb dX8_caveat_10 rfl (lv_at hl 0 rfl) ?_
    refine x_getr hx hb hts hinRX8 hown B 0 0 1 (by decide) (by decide) (fun _ => rfl) rfl rfl (by decide) (by decide +kernel) rfl dX8_caveat_11 ?_
    refine x_getr hx hb hts hinRX6 hown B 1 0 2 (by decide) (by decide) (fun _ => rfl) rfl rfl (by decide) (by decide +kernel) rfl dX8_caveat_14 ?_
    refine x_getr hx hb hts hinRX7 hown B 2 7 9 (by decide) (by decide) (fun _ => rfl) rfl rfl (by decide) (by decide +kernel) rfl dX8_caveat_17 ?_
    refine lv_iload_n hx hb dX8_caveat_20 rfl (lv_at hl 1 rfl) ?_
    obtain ⟨hg, hf⟩ := zg_some hf
    refine x_iald hx hb B 9 (by decide) (fun _ => rfl) (zin_ok hg) dX8_caveat_21 ?_
    refine lv_icmp_ge (tgt := 29) hx hb dX8_caveat_22 (by decide) (fun hc => ?_) (fun hc => ?_)
    · have hf := zif_t hc hf
      refine lv_iconst (v := (0 : Int32)) hx hb dX8_caveat_29 (by decide) ?_
      exact L30  _ _ _ _ _ _ _ _ hf B (lv_sub hl [0, 1, 2, 3] rfl)
    · have hf := zif_f hc hf
      refine lv_iconst (v := (1 : Int32)) hx hb dX8_caveat_25 (by decide) ?_
      refine lv_goto (tgt := 30) hx hb dX8_caveat_26 (by decide) ?_
      exact L30  _ _ _ _ _ _ _ _ hf B (lv_sub hl [0, 1, 2, 3] rfl)
theorem dX8_left_0 : decode cX8_left 0 = .ok (.aload_n 0, 1) := by decide +kernel
theorem dX8_left_1 : decode cX8_left 1 = .ok (.iload_n 1, 1) := by decide +kernel
theorem dX8_left_2 : decode cX8_left 2 = .ok (.invokevirtual 97, 3) := by decide +kernel
theorem dX8_left_5 : decode cX8_left 5 = .ok (.iload_n 2, 1) := by decide +kernel
theorem dX8_left_6 : decode cX8_left 6 = .ok (.ifCond .lt 12, 3) := by decide +kernel
theorem dX8_left_9 : decode cX8_left 9 = .ok (.iload_n 2, 1) := by decide +kernel
theorem dX8_left_10 : decode cX8_left 10 = .ok (.iconst 5, 1) := by decide +kernel
theorem dX8_left_11 : decode cX8_left 11 = .ok (.if_icmp .gt 7, 3) := by decide +kernel
theorem dX8_left_14 : decode cX8_left 14 = .ok (.iconst 1, 1) := by decide +kernel
theorem dX8_left_15 : decode cX8_left 15 = .ok (.goto 4, 3) := by decide +kernel
theorem dX8_left_18 : decode cX8_left 18 = .ok (.iconst 0, 1) := by decide +kernel
theorem dX8_left_19 : decode cX8_left 19 = .ok (.invokestatic 62, 3) := by decide +kernel
theorem dX8_left_22 : decode cX8_left 22 = .ok (.aload_n 0, 1) := by decide +kernel
theorem dX8_left_23 : decode cX8_left 23 = .ok (.getfield 12, 3) := by decide +kernel
theorem dX8_left_26 : decode cX8_left 26 = .ok (.getfield 66, 3) := by decide +kernel
theorem dX8_left_29 : decode cX8_left 29 = .ok (.iload_n 1, 1) := by decide +kernel
theorem dX8_left_30 : decode cX8_left 30 = .ok (.invokevirtual 201, 3) := by decide +kernel
theorem dX8_left_33 : decode cX8_left 33 = .ok (.astore_n 3, 1) := by decide +kernel
theorem dX8_left_34 : decode cX8_left 34 = .ok (.iload_n 2, 1) := by decide +kernel
theorem dX8_left_35 : decode cX8_left 35 = .ok (.tableswitch 69 0 4 #[33, 38, 43, 48, 53], 33) := by decide +kernel
theorem dX8_left_68 : decode cX8_left 68 = .ok (.aload_n 3, 1) := by decide +kernel
theorem dX8_left_69 : decode cX8_left 69 = .ok (.getfield 205, 3) := by decide +kernel
theorem dX8_left_72 : decode cX8_left 72 = .ok (.ireturn, 1) := by decide +kernel
theorem dX8_left_73 : decode cX8_left 73 = .ok (.aload_n 3, 1) := by decide +kernel
theorem dX8_left_74 : decode cX8_left 74 = .ok (.getfield 210, 3) := by decide +kernel
theorem dX8_left_77 : decode cX8_left 77 = .ok (.ireturn, 1) := by decide +kernel
theorem dX8_left_78 : decode cX8_left 78 = .ok (.aload_n 3, 1) := by decide +kernel
theorem dX8_left_79 : decode cX8_left 79 = .ok (.getfield 213, 3) := by decide +kernel
theorem dX8_left_82 : decode cX8_left 82 = .ok (.ireturn, 1) := by decide +kernel
theorem dX8_left_83 : decode cX8_left 83 = .ok (.aload_n 3, 1) := by decide +kernel
theorem dX8_left_84 : decode cX8_left 84 = .ok (.getfield 216, 3) := by decide +kernel
theorem dX8_left_87 : decode cX8_left 87 = .ok (.ireturn, 1) := by decide +kernel
theorem dX8_left_88 : decode cX8_left 88 = .ok (.aload_n 3, 1) := by decide +kernel
theorem dX8_left_89 : decode cX8_left 89 = .ok (.invokevirtual 218, 3) := by decide +kernel
theorem dX8_left_92 : decode cX8_left 92 = .ok (.ifCond .eq 10, 3) := by decide +kernel
theorem dX8_left_95 : decode cX8_left 95 = .ok (.aload_n 3, 1) := by decide +kernel
theorem dX8_left_96 : decode cX8_left 96 = .ok (.getfield 222, 3) := by decide +kernel
theorem dX8_left_99 : decode cX8_left 99 = .ok (.goto 4, 3) := by decide +kernel
theorem dX8_left_102 : decode cX8_left 102 = .ok (.iconst (-1), 1) := by decide +kernel
theorem dX8_left_103 : decode cX8_left 103 = .ok (.ireturn, 1) := by decide +kernel
theorem dX8_left_104 : decode cX8_left 104 = .ok (.aload_n 3, 1) := by decide +kernel
theorem dX8_left_105 : decode cX8_left 105 = .ok (.invokevirtual 218, 3) := by decide +kernel
theorem dX8_left_108 : decode cX8_left 108 = .ok (.ifCond .eq 10, 3) := by decide +kernel
theorem dX8_left_111 : decode cX8_left 111 = .ok (.aload_n 3, 1) := by decide +kernel
theorem dX8_left_112 : decode cX8_left 112 = .ok (.getfield 225, 3) := by decide +kernel
theorem dX8_left_115 : decode cX8_left 115 = .ok (.goto 4, 3) := by decide +kernel
theorem dX8_left_118 : decode cX8_left 118 = .ok (.iconst (-1), 1) := by decide +kernel
theorem dX8_left_119 : decode cX8_left 119 = .ok (.ireturn, 1) := by decide +kernel
set_option maxRecDepth 20000 in
theorem ggX8_left_X8_needToken : GoodIn wsX8_left wsX8_needToken := goodIn_ca (goodIn_r _ [13, 1, 2, 14, 15, 16, 12, 17, 18, 19, 67, 68, 69, 70, 71, 72, 73, 74, 75, 76, 77, 78, 79, 80, 81, 82, 89, 90, 91, 92, 93, 94, 95, 96, 97, 98, 99, 100] (by decide +kernel) (by decide +kernel)) (goodIn_sub (fun _ h => List.mem_cons_of_mem _ (List.mem_append_left _ (List.mem_append_left _ (List.mem_append_right _ h)))) (by decide +kernel))
set_option maxRecDepth 20000 in
theorem gX8_left_X8_needToken : GoodIn wsX8_left (wsV RX8 97 RX8 yX8_needToken wsX8_needToken) := goodIn_app (goodIn_of _ (by decide +kernel)) ggX8_left_X8_needToken
set_option maxRecDepth 20000 in
theorem ggX8_left_X8_needArgument : GoodIn wsX8_left wsX8_needArgument := goodIn_ca (goodIn_r _ [22, 23, 24] (by decide +kernel) (by decide +kernel)) (goodIn_sub (fun _ h => List.mem_cons_of_mem _ (List.mem_append_left _ (List.mem_append_right _ h))) (by decide +kernel))
set_option maxRecDepth 20000 in
theorem gX8_left_X8_needArgument : GoodIn wsX8_left (va_wsS RX8 62 yX8_needArgument wsX8_needArgument) := goodIn_app (goodIn_of _ (by decide +kernel)) ggX8_left_X8_needArgument
set_option maxRecDepth 20000 in
theorem ggX8_left_X7_limitsOf : GoodIn wsX8_left wsX7_limitsOf := goodIn_ca (goodIn_r _ [29, 30, 31, 32, 33, 34, 35, 36, 37, 38, 39, 40, 41, 42, 43, 44, 45, 46, 47, 48, 49, 50, 51, 52, 53, 54, 55, 56, 57, 58, 59, 60, 61, 62, 89, 90, 91, 92, 93, 94, 95, 96, 97, 98, 99, 100, 83, 84, 85, 86, 87, 88] (by decide +kernel) (by decide +kernel)) (goodIn_sub (fun _ h => List.mem_cons_of_mem _ (List.mem_append_right _ h)) (by decide +kernel))
set_option maxRecDepth 20000 in
theorem gX8_left_X7_limitsOf : GoodIn wsX8_left (wsV RX8 201 RX7 yX7_limitsOf wsX7_limitsOf) := goodIn_app (goodIn_of _ (by decide +kernel)) ggX8_left_X7_limitsOf
set_option maxRecDepth 20000 in
theorem ggX8_left_X3_hasArgument : GoodIn wsX8_left wsX3_hasArgument := goodIn_r _ [66, 47, 48, 83, 84, 85, 86, 87, 88] (by decide +kernel) (by decide +kernel)
set_option maxRecDepth 20000 in
theorem gX8_left_X3_hasArgument : GoodIn wsX8_left (wsV RX8 218 RX3 yX3_hasArgument wsX3_hasArgument) := goodIn_app (goodIn_of _ (by decide +kernel)) ggX8_left_X3_hasArgument
def rm_X8_left : Room := { frames := 10, cells := 2, slots := 12, locals := 241 }
set_option maxHeartbeats 4000000 in
set_option maxRecDepth 100000 in
theorem c_X8_left (l : Launch) (hfl : l.stackTraces = false) {G : zG} {ad : Nat → Nat} {σ σ' : zs} {a1 a2 : Int32} {ex : Nat} {r : Int32} (hf : f_X8_left σ a1 a2 = some (ex, r, σ')) : xXi l yX8_left wsX8_left rm_X8_left G ad σ [.ref (ad 0), .int a1, .int a2] ex r σ' := by
  intro sz nb a g hs
  refine vx_ofW (cc := cX8_left) (maxL := 4) (ret := (some .int)) (by decide) rfl ?_
  intro p e s m args below meth c s₁ B hml hno hv
  obtain ⟨rfl, hsz, hv⟩ := hv
  have hx := B.exec
  have hb := B.bytes
  have hr := B.returns
  have hts := atoms_spec (ws := wsX8_left) B.pre
  have hown : s.vm.findClass RX8 = some m.cls := findClass_of_methodNamed B.named
  have hlocks := B.notSynchronized
  subst hsz
  have B := xB_start hs hv
  have hinRX3 : ∀ w ∈ wsX30, w ∈ wsX8_left := by decide +kernel
  have hinRX6 : ∀ w ∈ wsX60, w ∈ wsX8_left := by decide +kernel
  have hinRX8 : ∀ w ∈ wsX80, w ∈ wsX8_left := by decide +kernel
  have hl := lv_entry ([.ref (ad 0), .int a1, .int a2]) (n := 4) (Nat.le_of_ble_eq_true rfl)
  rw [lg_entry_eq]
  generalize (lg_sl ([.ref (ad 0), .int a1, .int a2]) ++ List.replicate (4 - (lg_sl ([.ref (ad 0), .int a1, .int a2])).length) Slot.unset).toArray = ls at hl ⊢
  have hl : lv_has ls 4 [(0, .ref (ad 0)), (1, .int a1), (2, .int a2)] := hl
  generalize hAe : xA ad a s.heap.size = A at B ⊢
  have L19 : ∀ (σ : zs) (v1 : Int32) (v2 : Int32) (s0 : Int32) (H : Heap) (locs : List Loc) (ls : Array Slot), f_X8_left_19 σ v1 v2 s0 = some (ex, r, σ') → xB A s G ad σ H locs → lv_has ls 4 [(0, .ref (ad 0)), (1, .int v1), (2, .int v2)] → W p l e (headSpec wsX8_left rm_X8_left).room s m ([.ref (ad 0), .int a1, .int a2] : List Value).toArray below meth c H locs 1 6 (vx_MQ below (va_Qi (fun r' (u : xV) => (ex = 0 ∧ r' = r) ∧ xQ σ' u) (xPost G ad σ' A) A) (xXC G ad ex σ' A) ([.ref (ad 0), .int a1, .int a2] : List Value).toArray s 2 12 A) (F0 m 19 ls [.int s0]) := by
    intro σ v1 v2 s0 H locs ls hf B hl
    unfold f_X8_left_19 at hf
    obtain ⟨u4, r5, σ6, hu4, hf⟩ := zx_some hf
    refine x_xv B (fun nb a g hs Bz => vx_runS (As := [.int s0]) (rest := []) ⟨hx, hb, hml, hown, hts⟩ (c_X8_needArgument l hfl hu4 _ nb a g hs) (va_cwS 1 hts gX8_left_X8_needArgument rfl rfl rfl (by decide +kernel) ⟨Nat.le_of_ble_eq_true rfl, Nat.le_of_ble_eq_true rfl⟩) (z_preS Bz) rfl rfl hl.1 rfl (lv_room (Nat.le_of_ble_eq_true rfl)) dX8_left_19 ⟨Nat.le_of_ble_eq_true rfl, Nat.le_of_ble_eq_true rfl⟩) (fun H locs ce q9 h0 B k1 k2 k3 => ?_) (fun H locs h0 B => ?_)
    · exact x_xout hno hlocks (zx_no hf h0) h0 B k1 k2 k3 (Nat.le_of_ble_eq_true rfl) (Nat.le_of_ble_eq_true rfl)
    have hf := zx_ok hf h0
    refine lv_aload_n hx hb dX8_left_22 rfl (lv_at hl 0 rfl) ?_
    refine x_getr hx hb hts hinRX8 hown B 0 0 1 (by decide) (by decide) (fun _ => rfl) rfl rfl (by decide) (by decide +kernel) rfl dX8_left_23 ?_
    refine x_getr hx hb hts hinRX6 hown B 1 0 2 (by decide) (by decide) (fun _ => rfl) rfl rfl (by decide) (by decide +kernel) rfl dX8_left_26 ?_
    refine lv_iload_n hx hb dX8_left_29 rfl (lv_at hl 1 rfl) ?_
    obtain ⟨r8, σ9, hu7, hf⟩ := zb_some hf
    refine x_r B (fun nb a g hs Bz => va_runV (As := [.int v1]) (rest := []) ⟨hx, hb, hml, hown, hts⟩ (c_X7_limitsOf l hu7 _ nb a g hs) (cwV 1 hts gX8_left_X7_limitsOf rfl rfl rfl (by decide +kernel) ⟨Nat.le_of_ble_eq_true rfl, Nat.le_of_ble_eq_true rfl⟩) (x_preV Bz (by decide) (fun _ => rfl) rfl) rfl rfl hl.1 rfl (lv_room (Nat.le_of_ble_eq_true rfl)) dX8_left_30 ⟨Nat.le_of_ble_eq_true rfl, Nat.le_of_ble_eq_true rfl⟩) (fun H locs B => ?_)
    refine lv_astore_n (lv' := [(3, .ref (ad 13)), (0, .ref (ad 0)), (1, .int v1), (2, .int v2)]) hx hb dX8_left_33 rfl hl (by decide) rfl (fun ls hl => ?_)
    refine lv_iload_n hx hb dX8_left_34 rfl (lv_at hl 3 rfl) ?_
    by_cases hc0 : v2 = (0 : Int32)
    · have hf := zif_t hc0 hf
      refine lv_tableIn (off := 33) (tgt := 68) hx hb dX8_left_35 (by rw [hc0]; decide) (by rw [hc0]; decide) (by rw [hc0]; rfl) (by decide) ?_
      refine lv_aload_n hx hb dX8_left_68 rfl (lv_at hl 0 rfl) ?_
      refine x_geti hx hb hts hinRX3 hown B 13 0 (by decide) (fun _ => rfl) rfl rfl (by decide) (by decide +kernel) rfl dX8_left_69 ?_
      refine W.widen (k := 2) (n := 12) (Nat.le_of_ble_eq_true rfl) (Nat.le_of_ble_eq_true rfl) ?_
      exact x_xiret hx hb hr rfl hlocks B hf dX8_left_72
    have hf := zif_f hc0 hf
    by_cases hc1 : v2 = (1 : Int32)
    · have hf := zif_t hc1 hf
      refine lv_tableIn (off := 38) (tgt := 73) hx hb dX8_left_35 (by rw [hc1]; decide) (by rw [hc1]; decide) (by rw [hc1]; rfl) (by decide) ?_
      refine lv_aload_n hx hb dX8_left_73 rfl (lv_at hl 0 rfl) ?_
      refine x_geti hx hb hts hinRX3 hown B 13 1 (by decide) (fun _ => rfl) rfl rfl (by decide) (by decide +kernel) rfl dX8_left_74 ?_
      refine W.widen (k := 2) (n := 12) (Nat.le_of_ble_eq_true rfl) (Nat.le_of_ble_eq_true rfl) ?_
      exact x_xiret hx hb hr rfl hlocks B hf dX8_left_77
    have hf := zif_f hc1 hf
    by_cases hc2 : v2 = (2 : Int32)
    · have hf := zif_t hc2 hf
      refine lv_tableIn (off := 43) (tgt := 78) hx hb dX8_left_35 (by rw [hc2]; decide) (by rw [hc2]; decide) (by rw [hc2]; rfl) (by decide) ?_
      refine lv_aload_n hx hb dX8_left_78 rfl (lv_at hl 0 rfl) ?_
      refine x_geti hx hb hts hinRX3 hown B 13 2 (by decide) (fun _ => rfl) rfl rfl (by decide) (by decide +kernel) rfl dX8_left_79 ?_
      refine W.widen (k := 2) (n := 12) (Nat.le_of_ble_eq_true rfl) (Nat.le_of_ble_eq_true rfl) ?_
      exact x_xiret hx hb hr rfl hlocks B hf dX8_left_82
    have hf := zif_f hc2 hf
    by_cases hc3 : v2 = (3 : Int32)
    · have hf := zif_t hc3 hf
      refine lv_tableIn (off := 48) (tgt := 83) hx hb dX8_left_35 (by rw [hc3]; decide) (by rw [hc3]; decide) (by rw [hc3]; rfl) (by decide) ?_
      refine lv_aload_n hx hb dX8_left_83 rfl (lv_at hl 0 rfl) ?_
      refine x_geti hx hb hts hinRX3 hown B 13 3 (by decide) (fun _ => rfl) rfl rfl (by decide) (by decide +kernel) rfl dX8_left_84 ?_
      refine W.widen (k := 2) (n := 12) (Nat.le_of_ble_eq_true rfl) (Nat.le_of_ble_eq_true rfl) ?_
      exact x_xiret hx hb hr rfl hlocks B hf dX8_left_87
    have hf := zif_f hc3 hf
    by_cases hc4 : v2 = (4 : Int32)
    · have hf := zif_t hc4 hf
      refine lv_tableIn (off := 53) (tgt := 88) hx hb dX8_left_35 (by rw [hc4]; decide) (by rw [hc4]; decide) (by rw [hc4]; rfl) (by decide) ?_
      refine lv_aload_n hx hb dX8_left_88 rfl (lv_at hl 0 rfl) ?_
      obtain ⟨r14, σ15, hu13, hf⟩ := zb_some hf
      refine x_i B (fun nb a g hs Bz => va_runV (As := []) (rest := []) ⟨hx, hb, hml, hown, hts⟩ (c_X3_hasArgument l hu13 _ nb a g hs) (cwV 0 hts gX8_left_X3_hasArgument rfl rfl rfl (by decide +kernel) ⟨Nat.le_of_ble_eq_true rfl, Nat.le_of_ble_eq_true rfl⟩) (x_preV Bz (by decide) (fun _ => rfl) rfl) rfl rfl hl.1 rfl (lv_room (Nat.le_of_ble_eq_true rfl)) dX8_left_89 ⟨Nat.le_of_ble_eq_true rfl, Nat.le_of_ble_eq_true rfl⟩) (fun H locs B => ?_)
      refine lv_if_eq (tgt := 102) hx hb dX8_left_92 (by decide) (fun hc => ?_) (fun hc => ?_)
      · have hf := zif_t hc hf
        refine lv_iconst (v := (-1 : Int32)) hx hb dX8_left_102 (by decide) ?_
        refine W.widen (k := 2) (n := 12) (Nat.le_of_ble_eq_true rfl) (Nat.le_of_ble_eq_true rfl) ?_
        exact x_xiret hx hb hr rfl hlocks B hf dX8_left_103
      · have hf := zif_f hc hf
        refine lv_aload_n hx hb dX8_left_95 rfl (lv_at hl 0 rfl) ?_
        refine x_geti hx hb hts hinRX3 hown B 13 4 (by decide) (fun _ => rfl) rfl rfl (by decide) (by decide +kernel) rfl dX8_left_96 ?_
        refine lv_goto (tgt := 103) hx hb dX8_left_99 (by decide) ?_
        refine W.widen (k := 2) (n := 12) (Nat.le_of_ble_eq_true rfl) (Nat.le_of_ble_eq_true rfl) ?_
        exact x_xiret hx hb hr rfl hlocks B hf dX8_left_103
    have hf := zif_f hc4 hf
    refine lv_tableOut (tgt := 104) hx hb dX8_left_35 (zsw_out (fun j h1 h2 hj => ?_)) (by decide) ?_
    · have hd : j = 0 ∨ j = 1 ∨ j = 2 ∨ j = 3 ∨ j = 4 := by omega
      rcases hd with rfl | rfl | rfl | rfl | rfl
      · exact hc0 (Int32.toInt_inj.mp (hj.trans (by decide)))
      · exact hc1 (Int32.toInt_inj.mp (hj.trans (by decide)))
      · exact hc2 (Int32.toInt_inj.mp (hj.trans (by decide)))
      · exact hc3 (Int32.toInt_inj.mp (hj.trans (by decide)))
      · exact hc4 (Int32.toInt_inj.mp (hj.trans (by decide)))
    refine lv_aload_n hx hb dX8_left_104 rfl (lv_at hl 0 rfl) ?_
    obtain ⟨r11, σ12, hu10, hf⟩ := zb_some hf
    refine x_i B (fun nb a g hs Bz => va_runV (As := []) (rest := []) ⟨hx, hb, hml, hown, hts⟩ (c_X3_hasArgument l hu10 _ nb a g hs) (cwV 0 hts gX8_left_X3_hasArgument rfl rfl rfl (by decide +kernel) ⟨Nat.le_of_ble_eq_true rfl, Nat.le_of_ble_eq_true rfl⟩) (x_preV Bz (by decide) (fun _ => rfl) rfl) rfl rfl hl.1 rfl (lv_room (Nat.le_of_ble_eq_true rfl)) dX8_left_105 ⟨Nat.le_of_ble_eq_true rfl, Nat.le_of_ble_eq_true rfl⟩) (fun H locs B => ?_)
    refine lv_if_eq (tgt := 118) hx hb dX8_left_108 (by decide) (fun hc => ?_) (fun hc => ?_)
    · have hf := zif_t hc hf
      refine lv_iconst (v := (-1 : Int32)) hx hb dX8_left_118 (by decide) ?_
      refine W.widen (k := 2) (n := 12) (Nat.le_of_ble_eq_true rfl) (Nat.le_of_ble_eq_true rfl) ?_
      exact x_xiret hx hb hr rfl hlocks B hf dX8_left_119
    · have hf := zif_f hc hf
      refine lv_aload_n hx hb dX8_left_111 rfl (lv_at hl 0 rfl) ?_
      refine x_geti hx hb hts hinRX3 hown B 13 5 (by decide) (fun _ => rfl) rfl rfl (by decide) (by decide +kernel) rfl dX8_left_112 ?_
      refine lv_goto (tgt := 119) hx hb dX8_left_115 (by decide) ?_
      refine W.widen (k := 2) (n := 12) (Nat.le_of_ble_eq_true rfl) (Nat.le_of_ble_eq_true rfl) ?_
      exact x_xiret hx hb hr rfl hlocks B hf dX8_left_119
  unfold f_X8_left at hf
  refine lv_aload_n hx hb dX8_left_0 rfl (lv_at hl 0 rfl) ?_
  refine lv_iload_n hx hb dX8_left_1 rfl (lv_at hl 1 rfl) ?_
  obtain ⟨u1, r2, σ3, hu1, hf⟩ := zx_some hf
  refine x_xv B (fun nb a g hs Bz => vx_runV (As := [.int a1]) (rest := []) ⟨hx, hb, hml, hown, hts⟩ (c_X8_needToken l hfl hu1 _ nb a g hs) (cwV 1 hts gX8_left_X8_needToken rfl rfl rfl (by decide +kernel) ⟨Nat.le_of_ble_eq_true rfl, Nat.le_of_ble_eq_true rfl⟩) (x_preV Bz (by decide) (fun _ => rfl) rfl) rfl rfl hl.1 rfl (lv_room (Nat.le_of_ble_eq_true rfl)) dX8_left_2 ⟨Nat.le_of_ble_eq_true rfl, Nat.le_of_ble_eq_true rfl⟩) (fun H locs ce q9 h0 B k1 k2 k3 => ?_) (fun H locs h0 B => ?_)
  · exact x_xout hno hlocks (zx_no hf h0) h0 B k1 k2 k3 (Nat.le_of_ble_eq_true rfl) (Nat.le_of_ble_eq_true rfl)
  have hf := zx_ok hf h0
  refine lv_iload_n hx hb dX8_left_5 rfl (lv_at hl 2 rfl) ?_
  refine lv_if_lt (tgt := 18) hx hb dX8_left_6 (by decide) (fun hc => ?_) (fun hc => ?_)
  · have hf := zif_t hc hf
    refine lv_iconst (v := (0 : Int32)) hx hb dX8_left_18 (by decide) ?_
    exact L19  _ _ _ _ _ _ _ hf B (lv_sub hl [0, 1, 2] rfl)
  · have hf := zif_f hc hf
    refine lv_iload_n hx hb dX8_left_9 rfl (lv_at hl 2 rfl) ?_
    refine lv_iconst (v := (5 : Int32)) hx hb dX8_left_10 (by decide) ?_
    refine lv_icmp_gt (tgt := 18) hx hb dX8_left_11 (by decide) (fun hc => ?_) (fun hc => ?_)
    · have hf := zif_t hc hf
      refine lv_iconst (v := (0 : Int32)) hx hb dX8_left_18 (by decide) ?_
      exact L19  _ _ _ _ _ _ _ hf B (lv_sub hl [0, 1, 2] rfl)
    · have hf := zif_f hc hf
      refine lv_iconst (v := (1 : Int32)) hx hb dX8_left_14 (by decide) ?_
      refine lv_goto (tgt := 19) hx hb dX8_left_15 (by decide) ?_
      exact L19  _ _ _ _ _ _ _ hf B (lv_sub hl [0, 1, 2] rfl)
theorem dX8_holders_0 : decode cX8_holders 0 = .ok (.aload_n 0, 1) := by decide +kernel
theorem dX8_holders_1 : decode cX8_holders 1 = .ok (.iload_n 1, 1) := by decide +kernel
theorem dX8_holders_2 : decode cX8_holders 2 = .ok (.invokevirtual 97, 3) := by decide +kernel
theorem dX8_holders_5 : decode cX8_holders 5 = .ok (.aload_n 0, 1) := by decide +kernel
theorem dX8_holders_6 : decode cX8_holders 6 = .ok (.getfield 12, 3) := by decide +kernel
theorem dX8_holders_9 : decode cX8_holders 9 = .ok (.getfield 66, 3) := by decide +kernel
theorem dX8_holders_12 : decode cX8_holders 12 = .ok (.getfield 137, 3) := by decide +kernel
theorem dX8_holders_15 : decode cX8_holders 15 = .ok (.iload_n 1, 1) := by decide +kernel
theorem dX8_holders_16 : decode cX8_holders 16 = .ok (.iaload, 1) := by decide +kernel
theorem dX8_holders_17 : decode cX8_holders 17 = .ok (.ireturn, 1) := by decide +kernel
set_option maxRecDepth 20000 in
theorem ggX8_holders_X8_needToken : GoodIn wsX8_holders wsX8_needToken := goodIn_ca (goodIn_r _ [8, 1, 2, 9, 10, 11, 7, 12, 13, 14, 15, 16, 17, 18, 19, 20, 21, 22, 23, 24, 25, 26, 27, 28, 29, 30, 31, 32, 33, 34, 35, 36, 37, 38, 39, 40, 41, 42] (by decide +kernel) (by decide +kernel)) (goodIn_sub (fun _ h => List.mem_cons_of_mem _ (List.mem_append_right _ h)) (by decide +kernel))
set_option maxRecDepth 20000 in
theorem gX8_holders_X8_needToken : GoodIn wsX8_holders (wsV RX8 97 RX8 yX8_needToken wsX8_needToken) := goodIn_app (goodIn_of _ (by decide +kernel)) ggX8_holders_X8_needToken
def rm_X8_holders : Room := { frames := 10, cells := 1, slots := 6, locals := 241 }
set_option maxHeartbeats 4000000 in
set_option maxRecDepth 100000 in
theorem c_X8_holders (l : Launch) (hfl : l.stackTraces = false) {G : zG} {ad : Nat → Nat} {σ σ' : zs} {a1 : Int32} {ex : Nat} {r : Int32} (hf : f_X8_holders σ a1 = some (ex, r, σ')) : xXi l yX8_holders wsX8_holders rm_X8_holders G ad σ [.ref (ad 0), .int a1] ex r σ' := by
  intro sz nb a g hs
  refine vx_ofW (cc := cX8_holders) (maxL := 2) (ret := (some .int)) (by decide) rfl ?_
  intro p e s m args below meth c s₁ B hml hno hv
  obtain ⟨rfl, hsz, hv⟩ := hv
  have hx := B.exec
  have hb := B.bytes
  have hr := B.returns
  have hts := atoms_spec (ws := wsX8_holders) B.pre
  have hown : s.vm.findClass RX8 = some m.cls := findClass_of_methodNamed B.named
  have hlocks := B.notSynchronized
  subst hsz
  have B := xB_start hs hv
  have hinRX6 : ∀ w ∈ wsX60, w ∈ wsX8_holders := by decide +kernel
  have hinRX7 : ∀ w ∈ wsX70, w ∈ wsX8_holders := by decide +kernel
  have hinRX8 : ∀ w ∈ wsX80, w ∈ wsX8_holders := by decide +kernel
  have hl := lv_entry ([.ref (ad 0), .int a1]) (n := 2) (Nat.le_of_ble_eq_true rfl)
  rw [lg_entry_eq]
  generalize (lg_sl ([.ref (ad 0), .int a1]) ++ List.replicate (2 - (lg_sl ([.ref (ad 0), .int a1])).length) Slot.unset).toArray = ls at hl ⊢
  have hl : lv_has ls 2 [(0, .ref (ad 0)), (1, .int a1)] := hl
  generalize hAe : xA ad a s.heap.size = A at B ⊢
  unfold f_X8_holders at hf
  refine lv_aload_n hx hb dX8_holders_0 rfl (lv_at hl 0 rfl) ?_
  refine lv_iload_n hx hb dX8_holders_1 rfl (lv_at hl 1 rfl) ?_
  obtain ⟨u1, r2, σ3, hu1, hf⟩ := zx_some hf
  refine x_xv B (fun nb a g hs Bz => vx_runV (As := [.int a1]) (rest := []) ⟨hx, hb, hml, hown, hts⟩ (c_X8_needToken l hfl hu1 _ nb a g hs) (cwV 1 hts gX8_holders_X8_needToken rfl rfl rfl (by decide +kernel) ⟨Nat.le_of_ble_eq_true rfl, Nat.le_of_ble_eq_true rfl⟩) (x_preV Bz (by decide) (fun _ => rfl) rfl) rfl rfl hl.1 rfl (lv_room (Nat.le_of_ble_eq_true rfl)) dX8_holders_2 ⟨Nat.le_of_ble_eq_true rfl, Nat.le_of_ble_eq_true rfl⟩) (fun H locs ce q9 h0 B k1 k2 k3 => ?_) (fun H locs h0 B => ?_)
  · exact x_xout hno hlocks (zx_no hf h0) h0 B k1 k2 k3 (Nat.le_of_ble_eq_true rfl) (Nat.le_of_ble_eq_true rfl)
  have hf := zx_ok hf h0
  refine lv_aload_n hx hb dX8_holders_5 rfl (lv_at hl 0 rfl) ?_
  refine x_getr hx hb hts hinRX8 hown B 0 0 1 (by decide) (by decide) (fun _ => rfl) rfl rfl (by decide) (by decide +kernel) rfl dX8_holders_6 ?_
  refine x_getr hx hb hts hinRX6 hown B 1 0 2 (by decide) (by decide) (fun _ => rfl) rfl rfl (by decide) (by decide +kernel) rfl dX8_holders_9 ?_
  refine x_getr hx hb hts hinRX7 hown B 2 4 6 (by decide) (by decide) (fun _ => rfl) rfl rfl (by decide) (by decide +kernel) rfl dX8_holders_12 ?_
  refine lv_iload_n hx hb dX8_holders_15 rfl (lv_at hl 1 rfl) ?_
  obtain ⟨hg, hf⟩ := zg_some hf
  refine x_iald hx hb B 6 (by decide) (fun _ => rfl) (zin_ok hg) dX8_holders_16 ?_
  refine W.widen (k := 1) (n := 6) (Nat.le_of_ble_eq_true rfl) (Nat.le_of_ble_eq_true rfl) ?_
  exact x_xiret hx hb hr rfl hlocks B hf dX8_holders_17
theorem dX8_held_0 : decode cX8_held 0 = .ok (.iload_n 1, 1) := by decide +kernel
theorem dX8_held_1 : decode cX8_held 1 = .ok (.invokestatic 55, 3) := by decide +kernel
theorem dX8_held_4 : decode cX8_held 4 = .ok (.aload_n 0, 1) := by decide +kernel
theorem dX8_held_5 : decode cX8_held 5 = .ok (.getfield 12, 3) := by decide +kernel
theorem dX8_held_8 : decode cX8_held 8 = .ok (.getfield 66, 3) := by decide +kernel
theorem dX8_held_11 : decode cX8_held 11 = .ok (.iload_n 1, 1) := by decide +kernel
theorem dX8_held_12 : decode cX8_held 12 = .ok (.invokevirtual 228, 3) := by decide +kernel
theorem dX8_held_15 : decode cX8_held 15 = .ok (.ireturn, 1) := by decide +kernel
set_option maxRecDepth 20000 in
theorem ggX8_held_X8_needSubject : GoodIn wsX8_held wsX8_needSubject := goodIn_ca (goodIn_r _ [6, 7, 8, 5, 9, 10, 11] (by decide +kernel) (by decide +kernel)) (goodIn_sub (fun _ h => List.mem_cons_of_mem _ (List.mem_append_left _ (List.mem_append_right _ h))) (by decide +kernel))
set_option maxRecDepth 20000 in
theorem gX8_held_X8_needSubject : GoodIn wsX8_held (va_wsS RX8 55 yX8_needSubject wsX8_needSubject) := goodIn_app (goodIn_of _ (by decide +kernel)) ggX8_held_X8_needSubject
set_option maxRecDepth 20000 in
theorem ggX8_held_X7_setHeldBy : GoodIn wsX8_held wsX7_setHeldBy := goodIn_ca (goodIn_r _ [16, 17, 18, 19, 5, 20, 37, 38, 39, 40, 41, 42, 43, 44, 45, 46, 47, 48] (by decide +kernel) (by decide +kernel)) (goodIn_sub (fun _ h => List.mem_cons_of_mem _ (List.mem_append_right _ h)) (by decide +kernel))
set_option maxRecDepth 20000 in
theorem gX8_held_X7_setHeldBy : GoodIn wsX8_held (wsV RX8 228 RX7 yX7_setHeldBy wsX7_setHeldBy) := goodIn_app (goodIn_of _ (by decide +kernel)) ggX8_held_X7_setHeldBy
def rm_X8_held : Room := { frames := 10, cells := 1, slots := 6, locals := 240 }
set_option maxHeartbeats 4000000 in
set_option maxRecDepth 100000 in
theorem c_X8_held (l : Launch) (hfl : l.stackTraces = false) {G : zG} {ad : Nat → Nat} {σ σ' : zs} {a1 : Int32} {ex : Nat} {r : Int32} (hf : f_X8_held σ a1 = some (ex, r, σ')) : xXi l yX8_held wsX8_held rm_X8_held G ad σ [.ref (ad 0), .int a1] ex r σ' := by
  intro sz nb a g hs
  refine vx_ofW (cc := cX8_held) (maxL := 2) (ret := (some .int)) (by decide) rfl ?_
  intro p e s m args below meth c s₁ B hml hno hv
  obtain ⟨rfl, hsz, hv⟩ := hv
  have hx := B.exec
  have hb := B.bytes
  have hr := B.returns
  have hts := atoms_spec (ws := wsX8_held) B.pre
  have hown : s.vm.findClass RX8 = some m.cls := findClass_of_methodNamed B.named
  have hlocks := B.notSynchronized
  subst hsz
  have B := xB_start hs hv
  have hinRX6 : ∀ w ∈ wsX60, w ∈ wsX8_held := by decide +kernel
  have hinRX8 : ∀ w ∈ wsX80, w ∈ wsX8_held := by decide +kernel
  have hl := lv_entry ([.ref (ad 0), .int a1]) (n := 2) (Nat.le_of_ble_eq_true rfl)
  rw [lg_entry_eq]
  generalize (lg_sl ([.ref (ad 0), .int a1]) ++ List.replicate (2 - (lg_sl ([.ref (ad 0), .int a1])).length) Slot.unset).toArray = ls at hl ⊢
  have hl : lv_has ls 2 [(0, .ref (ad 0)), (1, .int a1)] := hl
  generalize hAe : xA ad a s.heap.size = A at B ⊢
  unfold f_X8_held at hf
  refine lv_iload_n hx hb dX8_held_0 rfl (lv_at hl 1 rfl) ?_
  obtain ⟨u1, r2, σ3, hu1, hf⟩ := zx_some hf
  refine x_xv B (fun nb a g hs Bz => vx_runS (As := [.int a1]) (rest := []) ⟨hx, hb, hml, hown, hts⟩ (c_X8_needSubject l hfl hu1 _ nb a g hs) (va_cwS 1 hts gX8_held_X8_needSubject rfl rfl rfl (by decide +kernel) ⟨Nat.le_of_ble_eq_true rfl, Nat.le_of_ble_eq_true rfl⟩) (z_preS Bz) rfl rfl hl.1 rfl (lv_room (Nat.le_of_ble_eq_true rfl)) dX8_held_1 ⟨Nat.le_of_ble_eq_true rfl, Nat.le_of_ble_eq_true rfl⟩) (fun H locs ce q9 h0 B k1 k2 k3 => ?_) (fun H locs h0 B => ?_)
  · exact x_xout hno hlocks (zx_no hf h0) h0 B k1 k2 k3 (Nat.le_of_ble_eq_true rfl) (Nat.le_of_ble_eq_true rfl)
  have hf := zx_ok hf h0
  refine lv_aload_n hx hb dX8_held_4 rfl (lv_at hl 0 rfl) ?_
  refine x_getr hx hb hts hinRX8 hown B 0 0 1 (by decide) (by decide) (fun _ => rfl) rfl rfl (by decide) (by decide +kernel) rfl dX8_held_5 ?_
  refine x_getr hx hb hts hinRX6 hown B 1 0 2 (by decide) (by decide) (fun _ => rfl) rfl rfl (by decide) (by decide +kernel) rfl dX8_held_8 ?_
  refine lv_iload_n hx hb dX8_held_11 rfl (lv_at hl 1 rfl) ?_
  obtain ⟨r5, σ6, hu4, hf⟩ := zb_some hf
  refine x_i B (fun nb a g hs Bz => va_runV (As := [.int a1]) (rest := []) ⟨hx, hb, hml, hown, hts⟩ (c_X7_setHeldBy l hu4 _ nb a g hs) (cwV 1 hts gX8_held_X7_setHeldBy rfl rfl rfl (by decide +kernel) ⟨Nat.le_of_ble_eq_true rfl, Nat.le_of_ble_eq_true rfl⟩) (x_preV Bz (by decide) (fun _ => rfl) rfl) rfl rfl hl.1 rfl (lv_room (Nat.le_of_ble_eq_true rfl)) dX8_held_12 ⟨Nat.le_of_ble_eq_true rfl, Nat.le_of_ble_eq_true rfl⟩) (fun H locs B => ?_)
  refine W.widen (k := 1) (n := 6) (Nat.le_of_ble_eq_true rfl) (Nat.le_of_ble_eq_true rfl) ?_
  exact x_xiret hx hb hr rfl hlocks B hf dX8_held_15
theorem dX8_below_0 : decode cX8_below 0 = .ok (.aload_n 0, 1) := by decide +kernel
theorem dX8_below_1 : decode cX8_below 1 = .ok (.iload_n 1, 1) := by decide +kernel
theorem dX8_below_2 : decode cX8_below 2 = .ok (.invokevirtual 97, 3) := by decide +kernel
theorem dX8_below_5 : decode cX8_below 5 = .ok (.aload_n 0, 1) := by decide +kernel
theorem dX8_below_6 : decode cX8_below 6 = .ok (.getfield 12, 3) := by decide +kernel
theorem dX8_below_9 : decode cX8_below 9 = .ok (.getfield 66, 3) := by decide +kernel
theorem dX8_below_12 : decode cX8_below 12 = .ok (.iload_n 1, 1) := by decide +kernel
theorem dX8_below_13 : decode cX8_below 13 = .ok (.invokevirtual 162, 3) := by decide +kernel
theorem dX8_below_16 : decode cX8_below 16 = .ok (.ireturn, 1) := by decide +kernel
set_option maxRecDepth 20000 in
theorem ggX8_below_X8_needToken : GoodIn wsX8_below wsX8_needToken := goodIn_ca (goodIn_r _ [7, 1, 2, 8, 9, 10, 6, 11, 12, 13, 26, 27, 28, 29, 30, 31, 32, 33, 34, 35, 36, 37, 38, 39, 40, 41, 42, 43, 44, 45, 46, 47, 48, 49, 50, 51, 52, 53] (by decide +kernel) (by decide +kernel)) (goodIn_sub (fun _ h => List.mem_cons_of_mem _ (List.mem_append_left _ (List.mem_append_right _ h))) (by decide +kernel))
set_option maxRecDepth 20000 in
theorem gX8_below_X8_needToken : GoodIn wsX8_below (wsV RX8 97 RX8 yX8_needToken wsX8_needToken) := goodIn_app (goodIn_of _ (by decide +kernel)) ggX8_below_X8_needToken
set_option maxRecDepth 20000 in
theorem ggX8_below_X7_setBelow : GoodIn wsX8_below wsX7_setBelow := goodIn_ca (goodIn_r _ [18, 19, 20, 21, 22, 17, 23, 24, 25, 42, 43, 44, 45, 46, 47, 48, 49, 50, 51, 52, 53] (by decide +kernel) (by decide +kernel)) (goodIn_sub (fun _ h => List.mem_cons_of_mem _ (List.mem_append_right _ h)) (by decide +kernel))
set_option maxRecDepth 20000 in
theorem gX8_below_X7_setBelow : GoodIn wsX8_below (wsV RX8 162 RX7 yX7_setBelow wsX7_setBelow) := goodIn_app (goodIn_of _ (by decide +kernel)) ggX8_below_X7_setBelow
def rm_X8_below : Room := { frames := 10, cells := 1, slots := 6, locals := 241 }
set_option maxHeartbeats 4000000 in
set_option maxRecDepth 100000 in
theorem c_X8_below (l : Launch) (hfl : l.stackTraces = false) {G : zG} {ad : Nat → Nat} {σ σ' : zs} {a1 : Int32} {ex : Nat} {r : Int32} (hf : f_X8_below σ a1 = some (ex, r, σ')) : xXi l yX8_below wsX8_below rm_X8_below G ad σ [.ref (ad 0), .int a1] ex r σ' := by
  intro sz nb a g hs
  refine vx_ofW (cc := cX8_below) (maxL := 2) (ret := (some .int)) (by decide) rfl ?_
  intro p e s m args below meth c s₁ B hml hno hv
  obtain ⟨rfl, hsz, hv⟩ := hv
  have hx := B.exec
  have hb := B.bytes
  have hr := B.returns
  have hts := atoms_spec (ws := wsX8_below) B.pre
  have hown : s.vm.findClass RX8 = some m.cls := findClass_of_methodNamed B.named
  have hlocks := B.notSynchronized
  subst hsz
  have B := xB_start hs hv
  have hinRX6 : ∀ w ∈ wsX60, w ∈ wsX8_below := by decide +kernel
  have hinRX8 : ∀ w ∈ wsX80, w ∈ wsX8_below := by decide +kernel
  have hl := lv_entry ([.ref (ad 0), .int a1]) (n := 2) (Nat.le_of_ble_eq_true rfl)
  rw [lg_entry_eq]
  generalize (lg_sl ([.ref (ad 0), .int a1]) ++ List.replicate (2 - (lg_sl ([.ref (ad 0), .int a1])).length) Slot.unset).toArray = ls at hl ⊢
  have hl : lv_has ls 2 [(0, .ref (ad 0)), (1, .int a1)] := hl
  generalize hAe : xA ad a s.heap.size = A at B ⊢
  unfold f_X8_below at hf
  refine lv_aload_n hx hb dX8_below_0 rfl (lv_at hl 0 rfl) ?_
  refine lv_iload_n hx hb dX8_below_1 rfl (lv_at hl 1 rfl) ?_
  obtain ⟨u1, r2, σ3, hu1, hf⟩ := zx_some hf
  refine x_xv B (fun nb a g hs Bz => vx_runV (As := [.int a1]) (rest := []) ⟨hx, hb, hml, hown, hts⟩ (c_X8_needToken l hfl hu1 _ nb a g hs) (cwV 1 hts gX8_below_X8_needToken rfl rfl rfl (by decide +kernel) ⟨Nat.le_of_ble_eq_true rfl, Nat.le_of_ble_eq_true rfl⟩) (x_preV Bz (by decide) (fun _ => rfl) rfl) rfl rfl hl.1 rfl (lv_room (Nat.le_of_ble_eq_true rfl)) dX8_below_2 ⟨Nat.le_of_ble_eq_true rfl, Nat.le_of_ble_eq_true rfl⟩) (fun H locs ce q9 h0 B k1 k2 k3 => ?_) (fun H locs h0 B => ?_)
  · exact x_xout hno hlocks (zx_no hf h0) h0 B k1 k2 k3 (Nat.le_of_ble_eq_true rfl) (Nat.le_of_ble_eq_true rfl)
  have hf := zx_ok hf h0
  refine lv_aload_n hx hb dX8_below_5 rfl (lv_at hl 0 rfl) ?_
  refine x_getr hx hb hts hinRX8 hown B 0 0 1 (by decide) (by decide) (fun _ => rfl) rfl rfl (by decide) (by decide +kernel) rfl dX8_below_6 ?_
  refine x_getr hx hb hts hinRX6 hown B 1 0 2 (by decide) (by decide) (fun _ => rfl) rfl rfl (by decide) (by decide +kernel) rfl dX8_below_9 ?_
  refine lv_iload_n hx hb dX8_below_12 rfl (lv_at hl 1 rfl) ?_
  obtain ⟨r5, σ6, hu4, hf⟩ := zb_some hf
  refine x_i B (fun nb a g hs Bz => va_runV (As := [.int a1]) (rest := []) ⟨hx, hb, hml, hown, hts⟩ (c_X7_setBelow l hu4 _ nb a g hs) (cwV 1 hts gX8_below_X7_setBelow rfl rfl rfl (by decide +kernel) ⟨Nat.le_of_ble_eq_true rfl, Nat.le_of_ble_eq_true rfl⟩) (x_preV Bz (by decide) (fun _ => rfl) rfl) rfl rfl hl.1 rfl (lv_room (Nat.le_of_ble_eq_true rfl)) dX8_below_13 ⟨Nat.le_of_ble_eq_true rfl, Nat.le_of_ble_eq_true rfl⟩) (fun H locs B => ?_)
  refine W.widen (k := 1) (n := 6) (Nat.le_of_ble_eq_true rfl) (Nat.le_of_ble_eq_true rfl) ?_
  exact x_xiret hx hb hr rfl hlocks B hf dX8_below_16
theorem dX8_ranked_0 : decode cX8_ranked 0 = .ok (.aload_n 0, 1) := by decide +kernel
theorem dX8_ranked_1 : decode cX8_ranked 1 = .ok (.getfield 12, 3) := by decide +kernel
theorem dX8_ranked_4 : decode cX8_ranked 4 = .ok (.getfield 66, 3) := by decide +kernel
theorem dX8_ranked_7 : decode cX8_ranked 7 = .ok (.iload_n 1, 1) := by decide +kernel
theorem dX8_ranked_8 : decode cX8_ranked 8 = .ok (.invokevirtual 231, 3) := by decide +kernel
theorem dX8_ranked_11 : decode cX8_ranked 11 = .ok (.istore_n 2, 1) := by decide +kernel
theorem dX8_ranked_12 : decode cX8_ranked 12 = .ok (.iload_n 2, 1) := by decide +kernel
theorem dX8_ranked_13 : decode cX8_ranked 13 = .ok (.iconst (-1), 1) := by decide +kernel
theorem dX8_ranked_14 : decode cX8_ranked 14 = .ok (.if_icmp .eq 7, 3) := by decide +kernel
theorem dX8_ranked_17 : decode cX8_ranked 17 = .ok (.iconst 1, 1) := by decide +kernel
theorem dX8_ranked_18 : decode cX8_ranked 18 = .ok (.goto 4, 3) := by decide +kernel
theorem dX8_ranked_21 : decode cX8_ranked 21 = .ok (.iconst 0, 1) := by decide +kernel
theorem dX8_ranked_22 : decode cX8_ranked 22 = .ok (.invokestatic 149, 3) := by decide +kernel
theorem dX8_ranked_25 : decode cX8_ranked 25 = .ok (.iload_n 2, 1) := by decide +kernel
theorem dX8_ranked_26 : decode cX8_ranked 26 = .ok (.ireturn, 1) := by decide +kernel
set_option maxRecDepth 20000 in
theorem ggX8_ranked_X7_withRank : GoodIn wsX8_ranked wsX7_withRank := goodIn_ca (goodIn_r _ [7, 8, 9, 10, 11, 6, 12, 13, 14, 15, 16, 17, 18, 41, 42, 43, 44, 45, 46, 47, 48, 49, 50, 51, 52] (by decide +kernel) (by decide +kernel)) (goodIn_sub (fun _ h => List.mem_cons_of_mem _ (List.mem_append_left _ (List.mem_append_right _ h))) (by decide +kernel))
set_option maxRecDepth 20000 in
theorem gX8_ranked_X7_withRank : GoodIn wsX8_ranked (wsV RX8 231 RX7 yX7_withRank wsX7_withRank) := goodIn_app (goodIn_of _ (by decide +kernel)) ggX8_ranked_X7_withRank
set_option maxRecDepth 20000 in
theorem ggX8_ranked_X8_needElement : GoodIn wsX8_ranked wsX8_needElement := goodIn_ca (goodIn_r _ [22, 23, 24] (by decide +kernel) (by decide +kernel)) (goodIn_sub (fun _ h => List.mem_cons_of_mem _ (List.mem_append_right _ h)) (by decide +kernel))
set_option maxRecDepth 20000 in
theorem gX8_ranked_X8_needElement : GoodIn wsX8_ranked (va_wsS RX8 149 yX8_needElement wsX8_needElement) := goodIn_app (goodIn_of _ (by decide +kernel)) ggX8_ranked_X8_needElement
def rm_X8_ranked : Room := { frames := 9, cells := 1, slots := 6, locals := 220 }
set_option maxHeartbeats 4000000 in
set_option maxRecDepth 100000 in
theorem c_X8_ranked (l : Launch) (hfl : l.stackTraces = false) {G : zG} {ad : Nat → Nat} {σ σ' : zs} {a1 : Int32} {ex : Nat} {r : Int32} (hf : f_X8_ranked σ a1 = some (ex, r, σ')) : xXi l yX8_ranked wsX8_ranked rm_X8_ranked G ad σ [.ref (ad 0), .int a1] ex r σ' := by
  intro sz nb a g hs
  refine vx_ofW (cc := cX8_ranked) (maxL := 3) (ret := (some .int)) (by decide) rfl ?_
  intro p e s m args below meth c s₁ B hml hno hv
  obtain ⟨rfl, hsz, hv⟩ := hv
  have hx := B.exec
  have hb := B.bytes
  have hr := B.returns
  have hts := atoms_spec (ws := wsX8_ranked) B.pre
  have hown : s.vm.findClass RX8 = some m.cls := findClass_of_methodNamed B.named
  have hlocks := B.notSynchronized
  subst hsz
  have B := xB_start hs hv
  have hinRX6 : ∀ w ∈ wsX60, w ∈ wsX8_ranked := by decide +kernel
  have hinRX8 : ∀ w ∈ wsX80, w ∈ wsX8_ranked := by decide +kernel
  have hl := lv_entry ([.ref (ad 0), .int a1]) (n := 3) (Nat.le_of_ble_eq_true rfl)
  rw [lg_entry_eq]
  generalize (lg_sl ([.ref (ad 0), .int a1]) ++ List.replicate (3 - (lg_sl ([.ref (ad 0), .int a1])).length) Slot.unset).toArray = ls at hl ⊢
  have hl : lv_has ls 3 [(0, .ref (ad 0)), (1, .int a1)] := hl
  generalize hAe : xA ad a s.heap.size = A at B ⊢
  have L22 : ∀ (σ : zs) (v2 : Int32) (s0 : Int32) (H : Heap) (locs : List Loc) (ls : Array Slot), f_X8_ranked_22 σ v2 s0 = some (ex, r, σ') → xB A s G ad σ H locs → lv_has ls 3 [(2, .int v2)] → W p l e (headSpec wsX8_ranked rm_X8_ranked).room s m ([.ref (ad 0), .int a1] : List Value).toArray below meth c H locs 0 0 (vx_MQ below (va_Qi (fun r' (u : xV) => (ex = 0 ∧ r' = r) ∧ xQ σ' u) (xPost G ad σ' A) A) (xXC G ad ex σ' A) ([.ref (ad 0), .int a1] : List Value).toArray s 1 6 A) (F0 m 22 ls [.int s0]) := by
    intro σ v2 s0 H locs ls hf B hl
    unfold f_X8_ranked_22 at hf
    obtain ⟨u4, r5, σ6, hu4, hf⟩ := zx_some hf
    refine x_xv B (fun nb a g hs Bz => vx_runS (As := [.int s0]) (rest := []) ⟨hx, hb, hml, hown, hts⟩ (c_X8_needElement l hfl hu4 _ nb a g hs) (va_cwS 1 hts gX8_ranked_X8_needElement rfl rfl rfl (by decide +kernel) ⟨Nat.le_of_ble_eq_true rfl, Nat.le_of_ble_eq_true rfl⟩) (z_preS Bz) rfl rfl hl.1 rfl (lv_room (Nat.le_of_ble_eq_true rfl)) dX8_ranked_22 ⟨Nat.le_of_ble_eq_true rfl, Nat.le_of_ble_eq_true rfl⟩) (fun H locs ce q9 h0 B k1 k2 k3 => ?_) (fun H locs h0 B => ?_)
    · exact x_xout hno hlocks (zx_no hf h0) h0 B k1 k2 k3 (Nat.le_of_ble_eq_true rfl) (Nat.le_of_ble_eq_true rfl)
    have hf := zx_ok hf h0
    refine lv_iload_n hx hb dX8_ranked_25 rfl (lv_at hl 0 rfl) ?_
    refine W.widen (k := 1) (n := 6) (Nat.le_of_ble_eq_true rfl) (Nat.le_of_ble_eq_true rfl) ?_
    exact x_xiret hx hb hr rfl hlocks B hf dX8_ranked_26
  unfold f_X8_ranked at hf
  refine lv_aload_n hx hb dX8_ranked_0 rfl (lv_at hl 0 rfl) ?_
  refine x_getr hx hb hts hinRX8 hown B 0 0 1 (by decide) (by decide) (fun _ => rfl) rfl rfl (by decide) (by decide +kernel) rfl dX8_ranked_1 ?_
  refine x_getr hx hb hts hinRX6 hown B 1 0 2 (by decide) (by decide) (fun _ => rfl) rfl rfl (by decide) (by decide +kernel) rfl dX8_ranked_4 ?_
  refine lv_iload_n hx hb dX8_ranked_7 rfl (lv_at hl 1 rfl) ?_
  obtain ⟨r2, σ3, hu1, hf⟩ := zb_some hf
  refine x_i B (fun nb a g hs Bz => va_runV (As := [.int a1]) (rest := []) ⟨hx, hb, hml, hown, hts⟩ (c_X7_withRank l hu1 _ nb a g hs) (cwV 1 hts gX8_ranked_X7_withRank rfl rfl rfl (by decide +kernel) ⟨Nat.le_of_ble_eq_true rfl, Nat.le_of_ble_eq_true rfl⟩) (x_preV Bz (by decide) (fun _ => rfl) rfl) rfl rfl hl.1 rfl (lv_room (Nat.le_of_ble_eq_true rfl)) dX8_ranked_8 ⟨Nat.le_of_ble_eq_true rfl, Nat.le_of_ble_eq_true rfl⟩) (fun H locs B => ?_)
  refine lv_istore_n (lv' := [(2, .int r2), (0, .ref (ad 0)), (1, .int a1)]) hx hb dX8_ranked_11 rfl hl (by decide) rfl (fun ls hl => ?_)
  refine lv_iload_n hx hb dX8_ranked_12 rfl (lv_at hl 0 rfl) ?_
  refine lv_iconst (v := (-1 : Int32)) hx hb dX8_ranked_13 (by decide) ?_
  refine lv_icmp_eq (tgt := 21) hx hb dX8_ranked_14 (by decide) (fun hc => ?_) (fun hc => ?_)
  · have hf := zif_t hc hf
    refine lv_iconst (v := (0 : Int32)) hx hb dX8_ranked_21 (by decide) ?_
    exact L22  _ _ _ _ _ _ hf B (lv_sub hl [0] rfl)
  · have hf := zif_f hc hf
    refine lv_iconst (v := (1 : Int32)) hx hb dX8_ranked_17 (by decide) ?_
    refine lv_goto (tgt := 22) hx hb dX8_ranked_18 (by decide) ?_
    exact L22  _ _ _ _ _ _ hf B (lv_sub hl [0] rfl)
theorem dX8_request_0 : decode cX8_request 0 = .ok (.iload_n 1, 1) := by decide +kernel
theorem dX8_request_1 : decode cX8_request 1 = .ok (.invokestatic 55, 3) := by decide +kernel
theorem dX8_request_4 : decode cX8_request 4 = .ok (.aload_n 0, 1) := by decide +kernel
theorem dX8_request_5 : decode cX8_request 5 = .ok (.iload_n 2, 1) := by decide +kernel
theorem dX8_request_6 : decode cX8_request 6 = .ok (.invokevirtual 97, 3) := by decide +kernel
theorem dX8_request_9 : decode cX8_request 9 = .ok (.iload_n 3, 1) := by decide +kernel
theorem dX8_request_10 : decode cX8_request 10 = .ok (.iconst 1, 1) := by decide +kernel
theorem dX8_request_11 : decode cX8_request 11 = .ok (.if_icmp .eq 14, 3) := by decide +kernel
theorem dX8_request_14 : decode cX8_request 14 = .ok (.iload_n 3, 1) := by decide +kernel
theorem dX8_request_15 : decode cX8_request 15 = .ok (.iconst 2, 1) := by decide +kernel
theorem dX8_request_16 : decode cX8_request 16 = .ok (.if_icmp .eq 9, 3) := by decide +kernel
theorem dX8_request_19 : decode cX8_request 19 = .ok (.iload_n 3, 1) := by decide +kernel
theorem dX8_request_20 : decode cX8_request 20 = .ok (.bipush 8, 2) := by decide +kernel
theorem dX8_request_22 : decode cX8_request 22 = .ok (.if_icmp .ne 7, 3) := by decide +kernel
theorem dX8_request_25 : decode cX8_request 25 = .ok (.iconst 1, 1) := by decide +kernel
theorem dX8_request_26 : decode cX8_request 26 = .ok (.goto 4, 3) := by decide +kernel
theorem dX8_request_29 : decode cX8_request 29 = .ok (.iconst 0, 1) := by decide +kernel
theorem dX8_request_30 : decode cX8_request 30 = .ok (.invokestatic 62, 3) := by decide +kernel
theorem dX8_request_33 : decode cX8_request 33 = .ok (.aload_n 0, 1) := by decide +kernel
theorem dX8_request_34 : decode cX8_request 34 = .ok (.iload_n 1, 1) := by decide +kernel
theorem dX8_request_35 : decode cX8_request 35 = .ok (.iload_n 2, 1) := by decide +kernel
theorem dX8_request_36 : decode cX8_request 36 = .ok (.iload_n 3, 1) := by decide +kernel
theorem dX8_request_37 : decode cX8_request 37 = .ok (.iload 4, 2) := by decide +kernel
theorem dX8_request_39 : decode cX8_request 39 = .ok (.invokevirtual 133, 3) := by decide +kernel
theorem dX8_request_42 : decode cX8_request 42 = .ok (.istore 5, 2) := by decide +kernel
theorem dX8_request_44 : decode cX8_request 44 = .ok (.aload_n 0, 1) := by decide +kernel
theorem dX8_request_45 : decode cX8_request 45 = .ok (.getfield 12, 3) := by decide +kernel
theorem dX8_request_48 : decode cX8_request 48 = .ok (.getfield 234, 3) := by decide +kernel
theorem dX8_request_51 : decode cX8_request 51 = .ok (.iload_n 1, 1) := by decide +kernel
theorem dX8_request_52 : decode cX8_request 52 = .ok (.iload_n 2, 1) := by decide +kernel
theorem dX8_request_53 : decode cX8_request 53 = .ok (.iload 5, 2) := by decide +kernel
theorem dX8_request_55 : decode cX8_request 55 = .ok (.invokevirtual 238, 3) := by decide +kernel
theorem dX8_request_58 : decode cX8_request 58 = .ok (.iload 5, 2) := by decide +kernel
theorem dX8_request_60 : decode cX8_request 60 = .ok (.invokestatic 110, 3) := by decide +kernel
theorem dX8_request_63 : decode cX8_request 63 = .ok (.aload_n 0, 1) := by decide +kernel
theorem dX8_request_64 : decode cX8_request 64 = .ok (.getfield 12, 3) := by decide +kernel
theorem dX8_request_67 : decode cX8_request 67 = .ok (.getfield 66, 3) := by decide +kernel
theorem dX8_request_70 : decode cX8_request 70 = .ok (.iload_n 2, 1) := by decide +kernel
theorem dX8_request_71 : decode cX8_request 71 = .ok (.invokevirtual 244, 3) := by decide +kernel
theorem dX8_request_74 : decode cX8_request 74 = .ok (.aload_n 0, 1) := by decide +kernel
theorem dX8_request_75 : decode cX8_request 75 = .ok (.getfield 12, 3) := by decide +kernel
theorem dX8_request_78 : decode cX8_request 78 = .ok (.aload_n 0, 1) := by decide +kernel
theorem dX8_request_79 : decode cX8_request 79 = .ok (.getfield 12, 3) := by decide +kernel
theorem dX8_request_82 : decode cX8_request 82 = .ok (.getfield 66, 3) := by decide +kernel
theorem dX8_request_85 : decode cX8_request 85 = .ok (.getfield 169, 3) := by decide +kernel
theorem dX8_request_88 : decode cX8_request 88 = .ok (.iload_n 2, 1) := by decide +kernel
theorem dX8_request_89 : decode cX8_request 89 = .ok (.iaload, 1) := by decide +kernel
theorem dX8_request_90 : decode cX8_request 90 = .ok (.iload_n 3, 1) := by decide +kernel
theorem dX8_request_91 : decode cX8_request 91 = .ok (.iload 4, 2) := by decide +kernel
theorem dX8_request_93 : decode cX8_request 93 = .ok (.invokevirtual 247, 3) := by decide +kernel
theorem dX8_request_96 : decode cX8_request 96 = .ok (.ireturn, 1) := by decide +kernel
set_option maxRecDepth 20000 in
theorem ggX8_request_X8_needSubject : GoodIn wsX8_request wsX8_needSubject := goodIn_ca (goodIn_r _ [8, 9, 10, 7, 11, 12, 13] (by decide +kernel) (by decide +kernel)) (goodIn_sub (fun _ h => List.mem_cons_of_mem _ (List.mem_append_left _ (List.mem_append_left _ (List.mem_append_right _ h)))) (by decide +kernel))
set_option maxRecDepth 20000 in
theorem gX8_request_X8_needSubject : GoodIn wsX8_request (va_wsS RX8 55 yX8_needSubject wsX8_needSubject) := goodIn_app (goodIn_of _ (by decide +kernel)) ggX8_request_X8_needSubject
set_option maxRecDepth 20000 in
theorem ggX8_request_X8_needToken : GoodIn wsX8_request wsX8_needToken := goodIn_ca (goodIn_r _ [17, 1, 3, 18, 9, 10, 7, 11, 12, 13, 104, 105, 106, 107, 108, 109, 110, 111, 112, 113, 114, 115, 116, 117, 118, 119, 120, 121, 122, 123, 124, 125, 126, 127, 128, 129, 130, 131] (by decide +kernel) (by decide +kernel)) (goodIn_sub (fun _ h => List.mem_cons_of_mem _ (List.mem_append_left _ (List.mem_append_left _ (List.mem_append_right _ h)))) (by decide +kernel))
set_option maxRecDepth 20000 in
theorem gX8_request_X8_needToken : GoodIn wsX8_request (wsV RX8 97 RX8 yX8_needToken wsX8_needToken) := goodIn_app (goodIn_of _ (by decide +kernel)) ggX8_request_X8_needToken
set_option maxRecDepth 20000 in
theorem ggX8_request_X8_needArgument : GoodIn wsX8_request wsX8_needArgument := goodIn_ca (goodIn_r _ [21, 22, 23] (by decide +kernel) (by decide +kernel)) (goodIn_sub (fun _ h => List.mem_cons_of_mem _ (List.mem_append_left _ (List.mem_append_right _ h))) (by decide +kernel))
set_option maxRecDepth 20000 in
theorem gX8_request_X8_needArgument : GoodIn wsX8_request (va_wsS RX8 62 yX8_needArgument wsX8_needArgument) := goodIn_app (goodIn_of _ (by decide +kernel)) ggX8_request_X8_needArgument
set_option maxRecDepth 20000 in
theorem ggX8_request_X8_isAllowed : GoodIn wsX8_request wsX8_isAllowed := goodIn_ca (goodIn_r _ [27, 28, 1, 29, 3, 30, 31, 32, 33, 34, 7, 35, 36, 37, 38, 39, 40, 41, 42, 43, 44, 45, 46, 47, 48, 49, 50, 51, 52, 53, 54, 55, 56, 57, 58, 59, 60, 61, 62, 63, 64, 65, 66, 104, 105, 106, 107, 108, 109, 110, 111, 112, 113, 114, 115, 116, 117, 118, 119, 120, 121, 122, 123, 124, 125, 126, 127, 128, 129, 130, 131, 132, 133, 134] (by decide +kernel) (by decide +kernel)) (goodIn_sub (fun _ h => List.mem_cons_of_mem _ (List.mem_append_left _ (List.mem_append_left _ (List.mem_append_left _ (List.mem_append_right _ h))))) (by decide +kernel))
set_option maxRecDepth 20000 in
theorem gX8_request_X8_isAllowed : GoodIn wsX8_request (wsV RX8 133 RX8 yX8_isAllowed wsX8_isAllowed) := goodIn_app (goodIn_of _ (by decide +kernel)) ggX8_request_X8_isAllowed
set_option maxRecDepth 20000 in
theorem ggX8_request_X2_enter : GoodIn wsX8_request wsX2_enter := goodIn_ca (goodIn_r _ [71, 72, 73, 74, 75, 76, 77, 78, 79, 80, 81, 82, 83, 135, 136, 137, 138] (by decide +kernel) (by decide +kernel)) (goodIn_sub (fun _ h => List.mem_cons_of_mem _ (List.mem_append_left _ (List.mem_append_left _ (List.mem_append_left _ (List.mem_append_right _ h))))) (by decide +kernel))
set_option maxRecDepth 20000 in
theorem gX8_request_X2_enter : GoodIn wsX8_request (wsV RX8 238 RX2 yX2_enter wsX2_enter) := goodIn_app (goodIn_of _ (by decide +kernel)) ggX8_request_X2_enter
set_option maxRecDepth 20000 in
theorem ggX8_request_X8_needPermission : GoodIn wsX8_request wsX8_needPermission := goodIn_ca (goodIn_r _ [86, 87, 88] (by decide +kernel) (by decide +kernel)) (goodIn_sub (fun _ h => List.mem_cons_of_mem _ (List.mem_append_right _ h)) (by decide +kernel))
set_option maxRecDepth 20000 in
theorem gX8_request_X8_needPermission : GoodIn wsX8_request (va_wsS RX8 110 yX8_needPermission wsX8_needPermission) := goodIn_app (goodIn_of _ (by decide +kernel)) ggX8_request_X8_needPermission
set_option maxRecDepth 20000 in
theorem ggX8_request_X7_useChain : GoodIn wsX8_request wsX7_useChain := goodIn_ca (goodIn_r _ [93, 94, 95, 96, 120, 121, 122, 123, 124, 125, 126, 127, 128, 129, 130, 131] (by decide +kernel) (by decide +kernel)) (goodIn_sub (fun _ h => List.mem_cons_of_mem _ (List.mem_append_left _ (List.mem_append_left _ (List.mem_append_left _ (List.mem_append_right _ h))))) (by decide +kernel))
set_option maxRecDepth 20000 in
theorem gX8_request_X7_useChain : GoodIn wsX8_request (wsV RX8 244 RX7 yX7_useChain wsX7_useChain) := goodIn_app (goodIn_of _ (by decide +kernel)) ggX8_request_X7_useChain
set_option maxRecDepth 20000 in
theorem ggX8_request_X6_act : GoodIn wsX8_request wsX6_act := goodIn_ca (goodIn_r _ [101, 102, 103, 112, 113, 114, 115, 116, 117, 118, 119] (by decide +kernel) (by decide +kernel)) (goodIn_sub (fun _ h => List.mem_cons_of_mem _ (List.mem_append_left _ (List.mem_append_left _ (List.mem_append_left _ (List.mem_append_right _ h))))) (by decide +kernel))
set_option maxRecDepth 20000 in
theorem gX8_request_X6_act : GoodIn wsX8_request (wsV RX8 247 RX6 yX6_act wsX6_act) := goodIn_app (goodIn_of _ (by decide +kernel)) ggX8_request_X6_act
def rm_X8_request : Room := { frames := 10, cells := 4, slots := 24, locals := 241 }
set_option maxHeartbeats 4000000 in
set_option maxRecDepth 100000 in
theorem c_X8_request (l : Launch) (hfl : l.stackTraces = false) {G : zG} {ad : Nat → Nat} {σ σ' : zs} {a1 a2 a3 a4 : Int32} {ex : Nat} {r : Int32} (hf : f_X8_request σ a1 a2 a3 a4 = some (ex, r, σ')) : xXi l yX8_request wsX8_request rm_X8_request G ad σ [.ref (ad 0), .int a1, .int a2, .int a3, .int a4] ex r σ' := by
  intro sz nb a g hs
  refine vx_ofW (cc := cX8_request) (maxL := 6) (ret := (some .int)) (by decide) rfl ?_
  intro p e s m args below meth c s₁ B hml hno hv
  obtain ⟨rfl, hsz, hv⟩ := hv
  have hx := B.exec
  have hb := B.bytes
  have hr := B.returns
  have hts := atoms_spec (ws := wsX8_request) B.pre
  have hown : s.vm.findClass RX8 = some m.cls := findClass_of_methodNamed B.named
  have hlocks := B.notSynchronized
  subst hsz
  have B := xB_start hs hv
  have hinRX6 : ∀ w ∈ wsX60, w ∈ wsX8_request := by decide +kernel
  have hinRX7 : ∀ w ∈ wsX70, w ∈ wsX8_request := by decide +kernel
  have hinRX8 : ∀ w ∈ wsX80, w ∈ wsX8_request := by decide +kernel
  have hl := lv_entry ([.ref (ad 0), .int a1, .int a2, .int a3, .int a4]) (n := 6) (Nat.le_of_ble_eq_true rfl)
  rw [lg_entry_eq]
  generalize (lg_sl ([.ref (ad 0), .int a1, .int a2, .int a3, .int a4]) ++ List.replicate (6 - (lg_sl ([.ref (ad 0), .int a1, .int a2, .int a3, .int a4])).length) Slot.unset).toArray = ls at hl ⊢
  have hl : lv_has ls 6 [(0, .ref (ad 0)), (1, .int a1), (2, .int a2), (3, .int a3), (4, .int a4)] := hl
  generalize hAe : xA ad a s.heap.size = A at B ⊢
  have L30 : ∀ (σ : zs) (v1 : Int32) (v2 : Int32) (v3 : Int32) (v4 : Int32) (s0 : Int32) (H : Heap) (locs : List Loc) (ls : Array Slot), f_X8_request_30 σ v1 v2 v3 v4 s0 = some (ex, r, σ') → xB A s G ad σ H locs → lv_has ls 6 [(0, .ref (ad 0)), (1, .int v1), (2, .int v2), (3, .int v3), (4, .int v4)] → W p l e (headSpec wsX8_request rm_X8_request).room s m ([.ref (ad 0), .int a1, .int a2, .int a3, .int a4] : List Value).toArray below meth c H locs 2 12 (vx_MQ below (va_Qi (fun r' (u : xV) => (ex = 0 ∧ r' = r) ∧ xQ σ' u) (xPost G ad σ' A) A) (xXC G ad ex σ' A) ([.ref (ad 0), .int a1, .int a2, .int a3, .int a4] : List Value).toArray s 4 24 A) (F0 m 30 ls [.int s0]) := by
    intro σ v1 v2 v3 v4 s0 H locs ls hf B hl
    unfold f_X8_request_30 at hf
    obtain ⟨u7, r8, σ9, hu7, hf⟩ := zx_some hf
    refine x_xv B (fun nb a g hs Bz => vx_runS (As := [.int s0]) (rest := []) ⟨hx, hb, hml, hown, hts⟩ (c_X8_needArgument l hfl hu7 _ nb a g hs) (va_cwS 1 hts gX8_request_X8_needArgument rfl rfl rfl (by decide +kernel) ⟨Nat.le_of_ble_eq_true rfl, Nat.le_of_ble_eq_true rfl⟩) (z_preS Bz) rfl rfl hl.1 rfl (lv_room (Nat.le_of_ble_eq_true rfl)) dX8_request_30 ⟨Nat.le_of_ble_eq_true rfl, Nat.le_of_ble_eq_true rfl⟩) (fun H locs ce q9 h0 B k1 k2 k3 => ?_) (fun H locs h0 B => ?_)
    · exact x_xout hno hlocks (zx_no hf h0) h0 B k1 k2 k3 (Nat.le_of_ble_eq_true rfl) (Nat.le_of_ble_eq_true rfl)
    have hf := zx_ok hf h0
    refine lv_aload_n hx hb dX8_request_33 rfl (lv_at hl 0 rfl) ?_
    refine lv_iload_n hx hb dX8_request_34 rfl (lv_at hl 1 rfl) ?_
    refine lv_iload_n hx hb dX8_request_35 rfl (lv_at hl 2 rfl) ?_
    refine lv_iload_n hx hb dX8_request_36 rfl (lv_at hl 3 rfl) ?_
    refine lv_iload hx hb dX8_request_37 (lv_at hl 4 rfl) ?_
    obtain ⟨r11, σ12, hu10, hf⟩ := zb_some hf
    refine x_i B (fun nb a g hs Bz => va_runV (As := [.int v1, .int v2, .int v3, .int v4]) (rest := []) ⟨hx, hb, hml, hown, hts⟩ (c_X8_isAllowed l hu10 _ nb a g hs) (cwV 4 hts gX8_request_X8_isAllowed rfl rfl rfl (by decide +kernel) ⟨Nat.le_of_ble_eq_true rfl, Nat.le_of_ble_eq_true rfl⟩) (x_preV Bz (by decide) (fun _ => rfl) rfl) rfl rfl hl.1 rfl (lv_room (Nat.le_of_ble_eq_true rfl)) dX8_request_39 ⟨Nat.le_of_ble_eq_true rfl, Nat.le_of_ble_eq_true rfl⟩) (fun H locs B => ?_)
    refine lv_istore (lv' := [(5, .int r11), (0, .ref (ad 0)), (1, .int v1), (2, .int v2), (3, .int v3), (4, .int v4)]) hx hb dX8_request_42 hl (by decide) rfl (fun ls hl => ?_)
    refine lv_aload_n hx hb dX8_request_44 rfl (lv_at hl 1 rfl) ?_
    refine x_getr hx hb hts hinRX8 hown B 0 0 1 (by decide) (by decide) (fun _ => rfl) rfl rfl (by decide) (by decide +kernel) rfl dX8_request_45 ?_
    refine x_getr hx hb hts hinRX6 hown B 1 2 20 (by decide) (by decide) (fun _ => rfl) rfl rfl (by decide) (by decide +kernel) rfl dX8_request_48 ?_
    refine lv_iload_n hx hb dX8_request_51 rfl (lv_at hl 2 rfl) ?_
    refine lv_iload_n hx hb dX8_request_52 rfl (lv_at hl 3 rfl) ?_
    refine lv_iload hx hb dX8_request_53 (lv_at hl 0 rfl) ?_
    obtain ⟨r14, σ15, hu13, hf⟩ := zb_some hf
    refine x_v B (fun nb a g hs Bz => va_runV (As := [.int v1, .int v2, .int r11]) (rest := []) ⟨hx, hb, hml, hown, hts⟩ (c_X2_enter l hu13 _ nb a g hs) (cwV 3 hts gX8_request_X2_enter rfl rfl rfl (by decide +kernel) ⟨Nat.le_of_ble_eq_true rfl, Nat.le_of_ble_eq_true rfl⟩) (x_preV Bz (by decide) (fun _ => rfl) rfl) rfl rfl hl.1 rfl (lv_room (Nat.le_of_ble_eq_true rfl)) dX8_request_55 ⟨Nat.le_of_ble_eq_true rfl, Nat.le_of_ble_eq_true rfl⟩) (fun H locs B => ?_)
    refine lv_iload hx hb dX8_request_58 (lv_at hl 0 rfl) ?_
    obtain ⟨u16, r17, σ18, hu16, hf⟩ := zx_some hf
    refine x_xv B (fun nb a g hs Bz => vx_runS (As := [.int r11]) (rest := []) ⟨hx, hb, hml, hown, hts⟩ (c_X8_needPermission l hfl hu16 _ nb a g hs) (va_cwS 1 hts gX8_request_X8_needPermission rfl rfl rfl (by decide +kernel) ⟨Nat.le_of_ble_eq_true rfl, Nat.le_of_ble_eq_true rfl⟩) (z_preS Bz) rfl rfl hl.1 rfl (lv_room (Nat.le_of_ble_eq_true rfl)) dX8_request_60 ⟨Nat.le_of_ble_eq_true rfl, Nat.le_of_ble_eq_true rfl⟩) (fun H locs ce q9 h0 B k1 k2 k3 => ?_) (fun H locs h0 B => ?_)
    · exact x_xout hno hlocks (zx_no hf h0) h0 B k1 k2 k3 (Nat.le_of_ble_eq_true rfl) (Nat.le_of_ble_eq_true rfl)
    have hf := zx_ok hf h0
    refine lv_aload_n hx hb dX8_request_63 rfl (lv_at hl 1 rfl) ?_
    refine x_getr hx hb hts hinRX8 hown B 0 0 1 (by decide) (by decide) (fun _ => rfl) rfl rfl (by decide) (by decide +kernel) rfl dX8_request_64 ?_
    refine x_getr hx hb hts hinRX6 hown B 1 0 2 (by decide) (by decide) (fun _ => rfl) rfl rfl (by decide) (by decide +kernel) rfl dX8_request_67 ?_
    refine lv_iload_n hx hb dX8_request_70 rfl (lv_at hl 3 rfl) ?_
    obtain ⟨r20, σ21, hu19, hf⟩ := zb_some hf
    refine x_v B (fun nb a g hs Bz => va_runV (As := [.int v2]) (rest := []) ⟨hx, hb, hml, hown, hts⟩ (c_X7_useChain l hu19 _ nb a g hs) (cwV 1 hts gX8_request_X7_useChain rfl rfl rfl (by decide +kernel) ⟨Nat.le_of_ble_eq_true rfl, Nat.le_of_ble_eq_true rfl⟩) (x_preV Bz (by decide) (fun _ => rfl) rfl) rfl rfl hl.1 rfl (lv_room (Nat.le_of_ble_eq_true rfl)) dX8_request_71 ⟨Nat.le_of_ble_eq_true rfl, Nat.le_of_ble_eq_true rfl⟩) (fun H locs B => ?_)
    refine lv_aload_n hx hb dX8_request_74 rfl (lv_at hl 1 rfl) ?_
    refine x_getr hx hb hts hinRX8 hown B 0 0 1 (by decide) (by decide) (fun _ => rfl) rfl rfl (by decide) (by decide +kernel) rfl dX8_request_75 ?_
    refine lv_aload_n hx hb dX8_request_78 rfl (lv_at hl 1 rfl) ?_
    refine x_getr hx hb hts hinRX8 hown B 0 0 1 (by decide) (by decide) (fun _ => rfl) rfl rfl (by decide) (by decide +kernel) rfl dX8_request_79 ?_
    refine x_getr hx hb hts hinRX6 hown B 1 0 2 (by decide) (by decide) (fun _ => rfl) rfl rfl (by decide) (by decide +kernel) rfl dX8_request_82 ?_
    refine x_getr hx hb hts hinRX7 hown B 2 1 3 (by decide) (by decide) (fun _ => rfl) rfl rfl (by decide) (by decide +kernel) rfl dX8_request_85 ?_
    refine lv_iload_n hx hb dX8_request_88 rfl (lv_at hl 3 rfl) ?_
    obtain ⟨hg, hf⟩ := zg_some hf
    refine x_iald hx hb B 3 (by decide) (fun _ => rfl) (zin_ok hg) dX8_request_89 ?_
    refine lv_iload_n hx hb dX8_request_90 rfl (lv_at hl 4 rfl) ?_
    refine lv_iload hx hb dX8_request_91 (lv_at hl 5 rfl) ?_
    obtain ⟨r23, σ24, hu22, hf⟩ := zb_some hf
    refine x_i B (fun nb a g hs Bz => va_runV (As := [.int (σ21 3 v2.toNatClampNeg), .int v3, .int v4]) (rest := []) ⟨hx, hb, hml, hown, hts⟩ (c_X6_act l hu22 _ nb a g hs) (cwV 3 hts gX8_request_X6_act rfl rfl rfl (by decide +kernel) ⟨Nat.le_of_ble_eq_true rfl, Nat.le_of_ble_eq_true rfl⟩) (x_preV Bz (by decide) (fun _ => rfl) rfl) rfl rfl hl.1 rfl (lv_room (Nat.le_of_ble_eq_true rfl)) dX8_request_93 ⟨Nat.le_of_ble_eq_true rfl, Nat.le_of_ble_eq_true rfl⟩) (fun H locs B => ?_)
    refine W.widen (k := 4) (n := 24) (Nat.le_of_ble_eq_true rfl) (Nat.le_of_ble_eq_true rfl) ?_
    exact x_xiret hx hb hr rfl hlocks B hf dX8_request_96
  unfold f_X8_request at hf
  refine lv_iload_n hx hb dX8_request_0 rfl (lv_at hl 1 rfl) ?_
  obtain ⟨u1, r2, σ3, hu1, hf⟩ := zx_some hf
  refine x_xv B (fun nb a g hs Bz => vx_runS (As := [.int a1]) (rest := []) ⟨hx, hb, hml, hown, hts⟩ (c_X8_needSubject l hfl hu1 _ nb a g hs) (va_cwS 1 hts gX8_request_X8_needSubject rfl rfl rfl (by decide +kernel) ⟨Nat.le_of_ble_eq_true rfl, Nat.le_of_ble_eq_true rfl⟩) (z_preS Bz) rfl rfl hl.1 rfl (lv_room (Nat.le_of_ble_eq_true rfl)) dX8_request_1 ⟨Nat.le_of_ble_eq_true rfl, Nat.le_of_ble_eq_true rfl⟩) (fun H locs ce q9 h0 B k1 k2 k3 => ?_) (fun H locs h0 B => ?_)
  · exact x_xout hno hlocks (zx_no hf h0) h0 B k1 k2 k3 (Nat.le_of_ble_eq_true rfl) (Nat.le_of_ble_eq_true rfl)
  have hf := zx_ok hf h0
  refine lv_aload_n hx hb dX8_request_4 rfl (lv_at hl 0 rfl) ?_
  refine lv_iload_n hx hb dX8_request_5 rfl (lv_at hl 2 rfl) ?_
  obtain ⟨u4, r5, σ6, hu4, hf⟩ := zx_some hf
  refine x_xv B (fun nb a g hs Bz => vx_runV (As := [.int a2]) (rest := []) ⟨hx, hb, hml, hown, hts⟩ (c_X8_needToken l hfl hu4 _ nb a g hs) (cwV 1 hts gX8_request_X8_needToken rfl rfl rfl (by decide +kernel) ⟨Nat.le_of_ble_eq_true rfl, Nat.le_of_ble_eq_true rfl⟩) (x_preV Bz (by decide) (fun _ => rfl) rfl) rfl rfl hl.1 rfl (lv_room (Nat.le_of_ble_eq_true rfl)) dX8_request_6 ⟨Nat.le_of_ble_eq_true rfl, Nat.le_of_ble_eq_true rfl⟩) (fun H locs ce q9 h0 B k1 k2 k3 => ?_) (fun H locs h0 B => ?_)
  · exact x_xout hno hlocks (zx_no hf h0) h0 B k1 k2 k3 (Nat.le_of_ble_eq_true rfl) (Nat.le_of_ble_eq_true rfl)
  have hf := zx_ok hf h0
  refine lv_iload_n hx hb dX8_request_9 rfl (lv_at hl 3 rfl) ?_
  refine lv_iconst (v := (1 : Int32)) hx hb dX8_request_10 (by decide) ?_
  refine lv_icmp_eq (tgt := 25) hx hb dX8_request_11 (by decide) (fun hc => ?_) (fun hc => ?_)
  · have hf := zif_t hc hf
    refine lv_iconst (v := (1 : Int32)) hx hb dX8_request_25 (by decide) ?_
    refine lv_goto (tgt := 30) hx hb dX8_request_26 (by decide) ?_
    exact L30  _ _ _ _ _ _ _ _ _ hf B (lv_sub hl [0, 1, 2, 3, 4] rfl)
  · have hf := zif_f hc hf
    refine lv_iload_n hx hb dX8_request_14 rfl (lv_at hl 3 rfl) ?_
    refine lv_iconst (v := (2 : Int32)) hx hb dX8_request_15 (by decide) ?_
    refine lv_icmp_eq (tgt := 25) hx hb dX8_request_16 (by decide) (fun hc => ?_) (fun hc => ?_)
    · have hf := zif_t hc hf
      refine lv_iconst (v := (1 : Int32)) hx hb dX8_request_25 (by decide) ?_
      refine lv_goto (tgt := 30) hx hb dX8_request_26 (by decide) ?_
      exact L30  _ _ _ _ _ _ _ _ _ hf B (lv_sub hl [0, 1, 2, 3, 4] rfl)
    · have hf := zif_f hc hf
      refine lv_iload_n hx hb dX8_request_19 rfl (lv_at hl 3 rfl) ?_
      refine lv_bipush (v := (8 : Int32)) hx hb dX8_request_20 (by decide) ?_
      refine lv_icmp_ne (tgt := 29) hx hb dX8_request_22 (by decide) (fun hc => ?_) (fun hc => ?_)
      · have hf := zif_f hc hf
        refine lv_iconst (v := (0 : Int32)) hx hb dX8_request_29 (by decide) ?_
        exact L30  _ _ _ _ _ _ _ _ _ hf B (lv_sub hl [0, 1, 2, 3, 4] rfl)
      · have hf := zif_t hc hf
        refine lv_iconst (v := (1 : Int32)) hx hb dX8_request_25 (by decide) ?_
        refine lv_goto (tgt := 30) hx hb dX8_request_26 (by decide) ?_
        exact L30  _ _ _ _ _ _ _ _ _ hf B (lv_sub hl [0, 1, 2, 3, 4] rfl)
