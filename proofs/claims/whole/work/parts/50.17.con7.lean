theorem dX9_allows_0 : decode cX9_allows 0 = .ok (.aload_n 0, 1) := by decide +kernel
theorem dX9_allows_1 : decode cX9_allows 1 = .ok (.getfield 9, 3) := by decide +kernel
theorem dX9_allows_4 : decode cX9_allows 4 = .ok (.bipush 107, 2) := by decide +kernel
theorem dX9_allows_6 : decode cX9_allows 6 = .ok (.iload_n 2, 1) := by decide +kernel
theorem dX9_allows_7 : decode cX9_allows 7 = .ok (.iadd, 1) := by decide +kernel
theorem dX9_allows_8 : decode cX9_allows 8 = .ok (.iaload, 1) := by decide +kernel
theorem dX9_allows_9 : decode cX9_allows 9 = .ok (.iload_n 1, 1) := by decide +kernel
theorem dX9_allows_10 : decode cX9_allows 10 = .ok (.invokestatic 59, 3) := by decide +kernel
theorem dX9_allows_13 : decode cX9_allows 13 = .ok (.ifCond .ne 14, 3) := by decide +kernel
theorem dX9_allows_16 : decode cX9_allows 16 = .ok (.aload_n 0, 1) := by decide +kernel
theorem dX9_allows_17 : decode cX9_allows 17 = .ok (.iconst 1, 1) := by decide +kernel
theorem dX9_allows_18 : decode cX9_allows 18 = .ok (.iload_n 2, 1) := by decide +kernel
theorem dX9_allows_19 : decode cX9_allows 19 = .ok (.iconst 0, 1) := by decide +kernel
theorem dX9_allows_20 : decode cX9_allows 20 = .ok (.invokevirtual 63, 3) := by decide +kernel
theorem dX9_allows_23 : decode cX9_allows 23 = .ok (.istore 5, 2) := by decide +kernel
theorem dX9_allows_25 : decode cX9_allows 25 = .ok (.iconst 0, 1) := by decide +kernel
theorem dX9_allows_26 : decode cX9_allows 26 = .ok (.ireturn, 1) := by decide +kernel
theorem dX9_allows_27 : decode cX9_allows 27 = .ok (.aload_n 0, 1) := by decide +kernel
theorem dX9_allows_28 : decode cX9_allows 28 = .ok (.iload_n 2, 1) := by decide +kernel
theorem dX9_allows_29 : decode cX9_allows 29 = .ok (.invokevirtual 66, 3) := by decide +kernel
theorem dX9_allows_32 : decode cX9_allows 32 = .ok (.istore 5, 2) := by decide +kernel
theorem dX9_allows_34 : decode cX9_allows 34 = .ok (.iconst 0, 1) := by decide +kernel
theorem dX9_allows_35 : decode cX9_allows 35 = .ok (.istore 6, 2) := by decide +kernel
theorem dX9_allows_37 : decode cX9_allows 37 = .ok (.iload 6, 2) := by decide +kernel
theorem dX9_allows_39 : decode cX9_allows 39 = .ok (.iload 5, 2) := by decide +kernel
theorem dX9_allows_41 : decode cX9_allows 41 = .ok (.if_icmp .ge 148, 3) := by decide +kernel
theorem dX9_allows_44 : decode cX9_allows 44 = .ok (.aload_n 0, 1) := by decide +kernel
theorem dX9_allows_45 : decode cX9_allows 45 = .ok (.getfield 23, 3) := by decide +kernel
theorem dX9_allows_48 : decode cX9_allows 48 = .ok (.iload 6, 2) := by decide +kernel
theorem dX9_allows_50 : decode cX9_allows 50 = .ok (.iaload, 1) := by decide +kernel
theorem dX9_allows_51 : decode cX9_allows 51 = .ok (.istore 7, 2) := by decide +kernel
theorem dX9_allows_53 : decode cX9_allows 53 = .ok (.aload_n 0, 1) := by decide +kernel
theorem dX9_allows_54 : decode cX9_allows 54 = .ok (.getfield 9, 3) := by decide +kernel
theorem dX9_allows_57 : decode cX9_allows 57 = .ok (.sipush 135, 3) := by decide +kernel
theorem dX9_allows_60 : decode cX9_allows 60 = .ok (.iload 7, 2) := by decide +kernel
theorem dX9_allows_62 : decode cX9_allows 62 = .ok (.iadd, 1) := by decide +kernel
theorem dX9_allows_63 : decode cX9_allows 63 = .ok (.iaload, 1) := by decide +kernel
theorem dX9_allows_64 : decode cX9_allows 64 = .ok (.ifCond .lt 31, 3) := by decide +kernel
theorem dX9_allows_67 : decode cX9_allows 67 = .ok (.aload_n 0, 1) := by decide +kernel
theorem dX9_allows_68 : decode cX9_allows 68 = .ok (.iconst 2, 1) := by decide +kernel
theorem dX9_allows_69 : decode cX9_allows 69 = .ok (.iload 7, 2) := by decide +kernel
theorem dX9_allows_71 : decode cX9_allows 71 = .ok (.iconst 0, 1) := by decide +kernel
theorem dX9_allows_72 : decode cX9_allows 72 = .ok (.invokevirtual 63, 3) := by decide +kernel
theorem dX9_allows_75 : decode cX9_allows 75 = .ok (.istore 8, 2) := by decide +kernel
theorem dX9_allows_77 : decode cX9_allows 77 = .ok (.aload_n 0, 1) := by decide +kernel
theorem dX9_allows_78 : decode cX9_allows 78 = .ok (.iconst 3, 1) := by decide +kernel
theorem dX9_allows_79 : decode cX9_allows 79 = .ok (.aload_n 0, 1) := by decide +kernel
theorem dX9_allows_80 : decode cX9_allows 80 = .ok (.getfield 9, 3) := by decide +kernel
theorem dX9_allows_83 : decode cX9_allows 83 = .ok (.sipush 135, 3) := by decide +kernel
theorem dX9_allows_86 : decode cX9_allows 86 = .ok (.iload 7, 2) := by decide +kernel
theorem dX9_allows_88 : decode cX9_allows 88 = .ok (.iadd, 1) := by decide +kernel
theorem dX9_allows_89 : decode cX9_allows 89 = .ok (.iaload, 1) := by decide +kernel
theorem dX9_allows_90 : decode cX9_allows 90 = .ok (.invokevirtual 51, 3) := by decide +kernel
theorem dX9_allows_93 : decode cX9_allows 93 = .ok (.iconst 0, 1) := by decide +kernel
theorem dX9_allows_94 : decode cX9_allows 94 = .ok (.ireturn, 1) := by decide +kernel
theorem dX9_allows_95 : decode cX9_allows 95 = .ok (.iconst 0, 1) := by decide +kernel
theorem dX9_allows_96 : decode cX9_allows 96 = .ok (.istore 8, 2) := by decide +kernel
theorem dX9_allows_98 : decode cX9_allows 98 = .ok (.iload 8, 2) := by decide +kernel
theorem dX9_allows_100 : decode cX9_allows 100 = .ok (.aload_n 0, 1) := by decide +kernel
theorem dX9_allows_101 : decode cX9_allows 101 = .ok (.getfield 9, 3) := by decide +kernel
theorem dX9_allows_104 : decode cX9_allows 104 = .ok (.sipush 191, 3) := by decide +kernel
theorem dX9_allows_107 : decode cX9_allows 107 = .ok (.iload 7, 2) := by decide +kernel
theorem dX9_allows_109 : decode cX9_allows 109 = .ok (.iadd, 1) := by decide +kernel
theorem dX9_allows_110 : decode cX9_allows 110 = .ok (.iaload, 1) := by decide +kernel
theorem dX9_allows_111 : decode cX9_allows 111 = .ok (.if_icmp .ge 72, 3) := by decide +kernel
theorem dX9_allows_114 : decode cX9_allows 114 = .ok (.aload_n 0, 1) := by decide +kernel
theorem dX9_allows_115 : decode cX9_allows 115 = .ok (.iload 7, 2) := by decide +kernel
theorem dX9_allows_117 : decode cX9_allows 117 = .ok (.iload 8, 2) := by decide +kernel
theorem dX9_allows_119 : decode cX9_allows 119 = .ok (.iload_n 1, 1) := by decide +kernel
theorem dX9_allows_120 : decode cX9_allows 120 = .ok (.iload_n 3, 1) := by decide +kernel
theorem dX9_allows_121 : decode cX9_allows 121 = .ok (.iload 4, 2) := by decide +kernel
theorem dX9_allows_123 : decode cX9_allows 123 = .ok (.invokevirtual 70, 3) := by decide +kernel
theorem dX9_allows_126 : decode cX9_allows 126 = .ok (.ifCond .ne 51, 3) := by decide +kernel
theorem dX9_allows_129 : decode cX9_allows 129 = .ok (.aload_n 0, 1) := by decide +kernel
theorem dX9_allows_130 : decode cX9_allows 130 = .ok (.iconst 4, 1) := by decide +kernel
theorem dX9_allows_131 : decode cX9_allows 131 = .ok (.iload 7, 2) := by decide +kernel
theorem dX9_allows_133 : decode cX9_allows 133 = .ok (.iconst 0, 1) := by decide +kernel
theorem dX9_allows_134 : decode cX9_allows 134 = .ok (.invokevirtual 63, 3) := by decide +kernel
theorem dX9_allows_137 : decode cX9_allows 137 = .ok (.istore 9, 2) := by decide +kernel
theorem dX9_allows_139 : decode cX9_allows 139 = .ok (.aload_n 0, 1) := by decide +kernel
theorem dX9_allows_140 : decode cX9_allows 140 = .ok (.bipush 10, 2) := by decide +kernel
theorem dX9_allows_142 : decode cX9_allows 142 = .ok (.aload_n 0, 1) := by decide +kernel
theorem dX9_allows_143 : decode cX9_allows 143 = .ok (.iload 7, 2) := by decide +kernel
theorem dX9_allows_145 : decode cX9_allows 145 = .ok (.iload 8, 2) := by decide +kernel
theorem dX9_allows_147 : decode cX9_allows 147 = .ok (.iconst 0, 1) := by decide +kernel
theorem dX9_allows_148 : decode cX9_allows 148 = .ok (.invokevirtual 55, 3) := by decide +kernel
theorem dX9_allows_151 : decode cX9_allows 151 = .ok (.iadd, 1) := by decide +kernel
theorem dX9_allows_152 : decode cX9_allows 152 = .ok (.iload 8, 2) := by decide +kernel
theorem dX9_allows_154 : decode cX9_allows 154 = .ok (.invokevirtual 51, 3) := by decide +kernel
theorem dX9_allows_157 : decode cX9_allows 157 = .ok (.aload_n 0, 1) := by decide +kernel
theorem dX9_allows_158 : decode cX9_allows 158 = .ok (.bipush 20, 2) := by decide +kernel
theorem dX9_allows_160 : decode cX9_allows 160 = .ok (.aload_n 0, 1) := by decide +kernel
theorem dX9_allows_161 : decode cX9_allows 161 = .ok (.iload 7, 2) := by decide +kernel
theorem dX9_allows_163 : decode cX9_allows 163 = .ok (.iload 8, 2) := by decide +kernel
theorem dX9_allows_165 : decode cX9_allows 165 = .ok (.iload_n 1, 1) := by decide +kernel
theorem dX9_allows_166 : decode cX9_allows 166 = .ok (.iload_n 3, 1) := by decide +kernel
theorem dX9_allows_167 : decode cX9_allows 167 = .ok (.iload 4, 2) := by decide +kernel
theorem dX9_allows_169 : decode cX9_allows 169 = .ok (.invokevirtual 74, 3) := by decide +kernel
theorem dX9_allows_172 : decode cX9_allows 172 = .ok (.invokevirtual 51, 3) := by decide +kernel
theorem dX9_allows_175 : decode cX9_allows 175 = .ok (.iconst 0, 1) := by decide +kernel
theorem dX9_allows_176 : decode cX9_allows 176 = .ok (.ireturn, 1) := by decide +kernel
theorem dX9_allows_177 : decode cX9_allows 177 = .ok (.iinc 8 1, 3) := by decide +kernel
theorem dX9_allows_180 : decode cX9_allows 180 = .ok (.goto (-82), 3) := by decide +kernel
theorem dX9_allows_183 : decode cX9_allows 183 = .ok (.iinc 6 1, 3) := by decide +kernel
theorem dX9_allows_186 : decode cX9_allows 186 = .ok (.goto (-149), 3) := by decide +kernel
theorem dX9_allows_189 : decode cX9_allows 189 = .ok (.iconst 1, 1) := by decide +kernel
theorem dX9_allows_190 : decode cX9_allows 190 = .ok (.ireturn, 1) := by decide +kernel
set_option maxRecDepth 20000 in
theorem ggX9_allows_X9_has : GoodIn wsX9_allows wsX9_has := goodIn_r _ [6] (by decide +kernel) (by decide +kernel)
set_option maxRecDepth 20000 in
theorem gX9_allows_X9_has : GoodIn wsX9_allows (va_wsS RX9 59 yX9_has wsX9_has) := goodIn_app (goodIn_of _ (by decide +kernel)) ggX9_allows_X9_has
set_option maxRecDepth 20000 in
theorem ggX9_allows_X9_chainOf : GoodIn wsX9_allows wsX9_chainOf := goodIn_ca (goodIn_r _ [21, 1, 2, 37, 38, 39, 40, 41, 42, 43, 44, 45, 46, 47, 48, 49, 50, 51, 52, 53, 54, 55, 56] (by decide +kernel) (by decide +kernel)) (goodIn_sub (fun _ h => List.mem_cons_of_mem _ (List.mem_append_right _ h)) (by decide +kernel))
set_option maxRecDepth 20000 in
theorem gX9_allows_X9_chainOf : GoodIn wsX9_allows (wsV RX9 66 RX9 yX9_chainOf wsX9_chainOf) := goodIn_app (goodIn_of _ (by decide +kernel)) ggX9_allows_X9_chainOf
set_option maxRecDepth 20000 in
theorem ggX9_allows_X9_holds : GoodIn wsX9_allows wsX9_holds := goodIn_ca (goodIn_r _ [25, 1, 26, 27, 28, 5, 29, 30, 31, 32, 37, 38, 39, 40, 41, 42, 43, 44, 45, 46, 47, 48, 49, 50, 51, 52, 53, 54, 55, 56] (by decide +kernel) (by decide +kernel)) (goodIn_sub (fun _ h => List.mem_cons_of_mem _ (List.mem_append_right _ h)) (by decide +kernel))
set_option maxRecDepth 20000 in
theorem gX9_allows_X9_holds : GoodIn wsX9_allows (wsV RX9 70 RX9 yX9_holds wsX9_holds) := goodIn_app (goodIn_of _ (by decide +kernel)) ggX9_allows_X9_holds
set_option maxRecDepth 20000 in
theorem ggX9_allows_X9_reports : GoodIn wsX9_allows wsX9_reports := goodIn_ca (goodIn_r _ [10, 11, 12, 13, 14, 5, 15, 16, 17, 37, 38, 39, 40, 41, 42, 43, 44, 45, 46, 47, 48, 49, 50, 51, 52, 53, 54, 55, 56] (by decide +kernel) (by decide +kernel)) (goodIn_sub (fun _ h => List.mem_cons_of_mem _ (List.mem_append_right _ h)) (by decide +kernel))
set_option maxRecDepth 20000 in
theorem gX9_allows_X9_reports : GoodIn wsX9_allows (wsV RX9 63 RX9 yX9_reports wsX9_reports) := goodIn_app (goodIn_of _ (by decide +kernel)) ggX9_allows_X9_reports
set_option maxRecDepth 20000 in
theorem ggX9_allows_X9_part : GoodIn wsX9_allows wsX9_part := goodIn_ca (goodIn_r _ [29, 1, 37, 38, 39, 40, 41, 42, 43, 44, 45, 46, 47, 48, 49, 50, 51, 52, 53, 54, 55, 56] (by decide +kernel) (by decide +kernel)) (goodIn_sub (fun _ h => List.mem_cons_of_mem _ (List.mem_append_right _ h)) (by decide +kernel))
set_option maxRecDepth 20000 in
theorem gX9_allows_X9_part : GoodIn wsX9_allows (wsV RX9 55 RX9 yX9_part wsX9_part) := goodIn_app (goodIn_of _ (by decide +kernel)) ggX9_allows_X9_part
set_option maxRecDepth 20000 in
theorem ggX9_allows_X9_tells : GoodIn wsX9_allows wsX9_tells := goodIn_ca (goodIn_r _ [15, 16, 11, 17, 37, 38, 39, 40, 41, 42, 43, 44, 45, 46, 47, 48, 49, 50, 51, 52, 53, 54, 55, 56] (by decide +kernel) (by decide +kernel)) (goodIn_sub (fun _ h => List.mem_cons_of_mem _ (List.mem_append_right _ h)) (by decide +kernel))
set_option maxRecDepth 20000 in
theorem gX9_allows_X9_tells : GoodIn wsX9_allows (wsV RX9 51 RX9 yX9_tells wsX9_tells) := goodIn_app (goodIn_of _ (by decide +kernel)) ggX9_allows_X9_tells
set_option maxRecDepth 20000 in
theorem ggX9_allows_X9_asked : GoodIn wsX9_allows wsX9_asked := goodIn_ca (goodIn_r _ [36, 1, 26, 27, 28, 5, 29, 37, 38, 39, 40, 41, 42, 43, 44, 45, 46, 47, 48, 49, 50, 51, 52, 53, 54, 55, 56] (by decide +kernel) (by decide +kernel)) (goodIn_sub (fun _ h => List.mem_cons_of_mem _ (List.mem_append_right _ h)) (by decide +kernel))
set_option maxRecDepth 20000 in
theorem gX9_allows_X9_asked : GoodIn wsX9_allows (wsV RX9 74 RX9 yX9_asked wsX9_asked) := goodIn_app (goodIn_of _ (by decide +kernel)) ggX9_allows_X9_asked
def rm_X9_allows : Room := { frames := 3, cells := 0, slots := 0, locals := 65 }
set_option maxHeartbeats 4000000 in
set_option maxRecDepth 100000 in
theorem c_X9_allows (l : Launch) {G : zG} {ad : Nat → Nat} {σ σ' : zs} {a1 a2 a3 a4 : Int32} {r : Int32} (hf : f_X9_allows σ a1 a2 a3 a4 = some (r, σ')) : xMi l yX9_allows wsX9_allows rm_X9_allows G ad σ [.ref (ad 65), .int a1, .int a2, .int a3, .int a4] r σ' := by
  intro sz nb a g hs
  refine Met.ofW (cc := cX9_allows) (maxL := 10) (ret := (some .boolean)) (by decide) rfl ?_
  intro p e s m args below meth c s₁ B hml hv
  obtain ⟨rfl, hsz, hv⟩ := hv
  have hx := B.exec
  have hb := B.bytes
  have hr := B.returns
  have hts := atoms_spec (ws := wsX9_allows) B.pre
  have hown : s.vm.findClass RX9 = some m.cls := findClass_of_methodNamed B.named
  have hlocks := B.notSynchronized
  subst hsz
  have B := xB_start hs hv
  have hinRX9 : ∀ w ∈ wsX90, w ∈ wsX9_allows := by decide +kernel
  have hl := lv_entry ([.ref (ad 65), .int a1, .int a2, .int a3, .int a4]) (n := 10) (Nat.le_of_ble_eq_true rfl)
  rw [lg_entry_eq]
  generalize (lg_sl ([.ref (ad 65), .int a1, .int a2, .int a3, .int a4]) ++ List.replicate (10 - (lg_sl ([.ref (ad 65), .int a1, .int a2, .int a3, .int a4])).length) Slot.unset).toArray = ls at hl ⊢
  have hl : lv_has ls 10 [(0, .ref (ad 65)), (1, .int a1), (2, .int a2), (3, .int a3), (4, .int a4)] := hl
  generalize hAe : xA ad a s.heap.size = A at B ⊢
  have L98 : ∀ (K37 : zs → Int32 → Int32 → Int32 → Int32 → Int32 → Option (Int32 × zs)) (hK37 : ∀ (σ : zs) (v1 : Int32) (v3 : Int32) (v4 : Int32) (v5 : Int32) (v6 : Int32) (H : Heap) (locs : List Loc) (ls : Array Slot), K37 σ v1 v3 v4 v5 v6 = some (r, σ') → xB A s G ad σ H locs → lv_has ls 10 [(0, .ref (ad 65)), (1, .int v1), (3, .int v3), (4, .int v4), (5, .int v5), (6, .int v6)] → W p l e (headSpec wsX9_allows rm_X9_allows).room s m ([.ref (ad 65), .int a1, .int a2, .int a3, .int a4] : List Value).toArray below meth c H locs 0 0 (MQ below (va_Qi (fun r' (u : xV) => r' = r ∧ xQ σ' u) (xPost G ad σ' A) A) ([.ref (ad 65), .int a1, .int a2, .int a3, .int a4] : List Value).toArray s 0 0 A) (F0 m 37 ls [])) (n : Nat) (σ : zs) (v1 : Int32) (v3 : Int32) (v4 : Int32) (v5 : Int32) (v6 : Int32) (v7 : Int32) (v8 : Int32) (H : Heap) (locs : List Loc) (ls : Array Slot), zlp7 (f_X9_allows_98 K37) n σ v1 v3 v4 v5 v6 v7 v8 = some (r, σ') → xB A s G ad σ H locs → lv_has ls 10 [(0, .ref (ad 65)), (1, .int v1), (3, .int v3), (4, .int v4), (5, .int v5), (6, .int v6), (7, .int v7), (8, .int v8)] → W p l e (headSpec wsX9_allows rm_X9_allows).room s m ([.ref (ad 65), .int a1, .int a2, .int a3, .int a4] : List Value).toArray below meth c H locs 0 0 (MQ below (va_Qi (fun r' (u : xV) => r' = r ∧ xQ σ' u) (xPost G ad σ' A) A) ([.ref (ad 65), .int a1, .int a2, .int a3, .int a4] : List Value).toArray s 0 0 A) (F0 m 98 ls []) := by
    intro K37 hK37 n
    induction n with
    | zero =>
      intro σ v1 v3 v4 v5 v6 v7 v8 H locs ls hf
      cases hf
    | succ n ih =>
      intro σ v1 v3 v4 v5 v6 v7 v8 H locs ls hf B hl
      have hf : f_X9_allows_98 K37 (zlp7 (f_X9_allows_98 K37) n) σ v1 v3 v4 v5 v6 v7 v8 = some (r, σ') := hf
      unfold f_X9_allows_98 at hf
      refine lv_iload hx hb dX9_allows_98 (lv_at hl 7 rfl) ?_
      refine lv_aload_n hx hb dX9_allows_100 rfl (lv_at hl 0 rfl) ?_
      refine x_getr hx hb hts hinRX9 hown B 65 0 66 (by decide) (by decide) (fun _ => rfl) rfl rfl (by decide) (by decide +kernel) rfl dX9_allows_101 ?_
      refine lv_sipush (v := (191 : Int32)) hx hb dX9_allows_104 (by decide) ?_
      refine lv_iload hx hb dX9_allows_107 (lv_at hl 6 rfl) ?_
      refine lv_iadd hx hb dX9_allows_109 ?_
      obtain ⟨hg, hf⟩ := zg_some hf
      refine x_iald hx hb B 66 (by decide) (fun _ => rfl) (zin_ok hg) dX9_allows_110 ?_
      refine lv_icmp_ge (tgt := 183) hx hb dX9_allows_111 (by decide) (fun hc => ?_) (fun hc => ?_)
      · have hf := zif_t hc hf
        refine lv_iinc (v := (v6 + (1 : Int32))) (lv' := [(6, .int (v6 + (1 : Int32))), (0, .ref (ad 65)), (1, .int v1), (3, .int v3), (4, .int v4), (5, .int v5), (7, .int v7), (8, .int v8)]) hx hb dX9_allows_183 hl (k := 5) rfl (zc1 (by decide)) (by decide) rfl (fun ls hl => ?_)
        refine lv_goto (tgt := 37) hx hb dX9_allows_186 (by decide) ?_
        exact hK37 _ _ _ _ _ _ _ _ _ hf B (lv_sub hl [1, 2, 3, 4, 5, 0] rfl)
      · have hf := zif_f hc hf
        refine lv_aload_n hx hb dX9_allows_114 rfl (lv_at hl 0 rfl) ?_
        refine lv_iload hx hb dX9_allows_115 (lv_at hl 6 rfl) ?_
        refine lv_iload hx hb dX9_allows_117 (lv_at hl 7 rfl) ?_
        refine lv_iload_n hx hb dX9_allows_119 rfl (lv_at hl 1 rfl) ?_
        refine lv_iload_n hx hb dX9_allows_120 rfl (lv_at hl 2 rfl) ?_
        refine lv_iload hx hb dX9_allows_121 (lv_at hl 3 rfl) ?_
        obtain ⟨r8, σ9, hu7, hf⟩ := zb_some hf
        refine x_i B (fun nb a g hs Bz => va_runV (As := [.int v7, .int v8, .int v1, .int v3, .int v4]) (rest := []) ⟨hx, hb, hml, hown, hts⟩ (c_X9_holds l hu7 _ nb a g hs) (cwV 5 hts gX9_allows_X9_holds rfl rfl rfl (by decide +kernel) ⟨Nat.le_of_ble_eq_true rfl, Nat.le_of_ble_eq_true rfl⟩) (x_preV Bz (by decide) (fun _ => rfl) rfl) rfl rfl hl.1 rfl (lv_room (Nat.le_of_ble_eq_true rfl)) dX9_allows_123 ⟨Nat.le_of_ble_eq_true rfl, Nat.le_of_ble_eq_true rfl⟩) (fun H locs B => ?_)
        refine lv_if_ne (tgt := 177) hx hb dX9_allows_126 (by decide) (fun hc => ?_) (fun hc => ?_)
        · have hf := zif_f hc hf
          refine lv_iinc (v := (v8 + (1 : Int32))) (lv' := [(8, .int (v8 + (1 : Int32))), (0, .ref (ad 65)), (1, .int v1), (3, .int v3), (4, .int v4), (5, .int v5), (6, .int v6), (7, .int v7)]) hx hb dX9_allows_177 hl (k := 7) rfl (zc1 (by decide)) (by decide) rfl (fun ls hl => ?_)
          refine lv_goto (tgt := 98) hx hb dX9_allows_180 (by decide) ?_
          exact ih _ _ _ _ _ _ _ _ _ _ _ hf B (lv_sub hl [1, 2, 3, 4, 5, 6, 7, 0] rfl)
        · have hf := zif_t hc hf
          refine lv_aload_n hx hb dX9_allows_129 rfl (lv_at hl 0 rfl) ?_
          refine lv_iconst (v := (4 : Int32)) hx hb dX9_allows_130 (by decide) ?_
          refine lv_iload hx hb dX9_allows_131 (lv_at hl 6 rfl) ?_
          refine lv_iconst (v := (0 : Int32)) hx hb dX9_allows_133 (by decide) ?_
          obtain ⟨r11, σ12, hu10, hf⟩ := zb_some hf
          refine x_i B (fun nb a g hs Bz => va_runV (As := [.int (4 : Int32), .int v7, .int (0 : Int32)]) (rest := []) ⟨hx, hb, hml, hown, hts⟩ (c_X9_reports l hu10 _ nb a g hs) (cwV 3 hts gX9_allows_X9_reports rfl rfl rfl (by decide +kernel) ⟨Nat.le_of_ble_eq_true rfl, Nat.le_of_ble_eq_true rfl⟩) (x_preV Bz (by decide) (fun _ => rfl) rfl) rfl rfl hl.1 rfl (lv_room (Nat.le_of_ble_eq_true rfl)) dX9_allows_134 ⟨Nat.le_of_ble_eq_true rfl, Nat.le_of_ble_eq_true rfl⟩) (fun H locs B => ?_)
          refine lv_istore (lv' := [(9, .int r11), (0, .ref (ad 65)), (1, .int v1), (3, .int v3), (4, .int v4), (5, .int v5), (6, .int v6), (7, .int v7), (8, .int v8)]) hx hb dX9_allows_137 hl (by decide) rfl (fun ls hl => ?_)
          refine lv_aload_n hx hb dX9_allows_139 rfl (lv_at hl 1 rfl) ?_
          refine lv_bipush (v := (10 : Int32)) hx hb dX9_allows_140 (by decide) ?_
          refine lv_aload_n hx hb dX9_allows_142 rfl (lv_at hl 1 rfl) ?_
          refine lv_iload hx hb dX9_allows_143 (lv_at hl 7 rfl) ?_
          refine lv_iload hx hb dX9_allows_145 (lv_at hl 8 rfl) ?_
          refine lv_iconst (v := (0 : Int32)) hx hb dX9_allows_147 (by decide) ?_
          obtain ⟨r14, σ15, hu13, hf⟩ := zb_some hf
          refine x_i B (fun nb a g hs Bz => va_runV (As := [.int v7, .int v8, .int (0 : Int32)]) (rest := [.int (10 : Int32), .ref (ad 65)]) ⟨hx, hb, hml, hown, hts⟩ (c_X9_part l hu13 _ nb a g hs) (cwV 3 hts gX9_allows_X9_part rfl rfl rfl (by decide +kernel) ⟨Nat.le_of_ble_eq_true rfl, Nat.le_of_ble_eq_true rfl⟩) (x_preV Bz (by decide) (fun _ => rfl) rfl) rfl rfl hl.1 rfl (lv_room (Nat.le_of_ble_eq_true rfl)) dX9_allows_148 ⟨Nat.le_of_ble_eq_true rfl, Nat.le_of_ble_eq_true rfl⟩) (fun H locs B => ?_)
          refine lv_iadd hx hb dX9_allows_151 ?_
          refine lv_iload hx hb dX9_allows_152 (lv_at hl 8 rfl) ?_
          obtain ⟨r17, σ18, hu16, hf⟩ := zb_some hf
          refine x_v B (fun nb a g hs Bz => va_runV (As := [.int ((10 : Int32) + r14), .int v8]) (rest := []) ⟨hx, hb, hml, hown, hts⟩ (c_X9_tells l hu16 _ nb a g hs) (cwV 2 hts gX9_allows_X9_tells rfl rfl rfl (by decide +kernel) ⟨Nat.le_of_ble_eq_true rfl, Nat.le_of_ble_eq_true rfl⟩) (x_preV Bz (by decide) (fun _ => rfl) rfl) rfl rfl hl.1 rfl (lv_room (Nat.le_of_ble_eq_true rfl)) dX9_allows_154 ⟨Nat.le_of_ble_eq_true rfl, Nat.le_of_ble_eq_true rfl⟩) (fun H locs B => ?_)
          refine lv_aload_n hx hb dX9_allows_157 rfl (lv_at hl 1 rfl) ?_
          refine lv_bipush (v := (20 : Int32)) hx hb dX9_allows_158 (by decide) ?_
          refine lv_aload_n hx hb dX9_allows_160 rfl (lv_at hl 1 rfl) ?_
          refine lv_iload hx hb dX9_allows_161 (lv_at hl 7 rfl) ?_
          refine lv_iload hx hb dX9_allows_163 (lv_at hl 8 rfl) ?_
          refine lv_iload_n hx hb dX9_allows_165 rfl (lv_at hl 2 rfl) ?_
          refine lv_iload_n hx hb dX9_allows_166 rfl (lv_at hl 3 rfl) ?_
          refine lv_iload hx hb dX9_allows_167 (lv_at hl 4 rfl) ?_
          obtain ⟨r20, σ21, hu19, hf⟩ := zb_some hf
          refine x_i B (fun nb a g hs Bz => va_runV (As := [.int v7, .int v8, .int v1, .int v3, .int v4]) (rest := [.int (20 : Int32), .ref (ad 65)]) ⟨hx, hb, hml, hown, hts⟩ (c_X9_asked l hu19 _ nb a g hs) (cwV 5 hts gX9_allows_X9_asked rfl rfl rfl (by decide +kernel) ⟨Nat.le_of_ble_eq_true rfl, Nat.le_of_ble_eq_true rfl⟩) (x_preV Bz (by decide) (fun _ => rfl) rfl) rfl rfl hl.1 rfl (lv_room (Nat.le_of_ble_eq_true rfl)) dX9_allows_169 ⟨Nat.le_of_ble_eq_true rfl, Nat.le_of_ble_eq_true rfl⟩) (fun H locs B => ?_)
          obtain ⟨r23, σ24, hu22, hf⟩ := zb_some hf
          refine x_v B (fun nb a g hs Bz => va_runV (As := [.int (20 : Int32), .int r20]) (rest := []) ⟨hx, hb, hml, hown, hts⟩ (c_X9_tells l hu22 _ nb a g hs) (cwV 2 hts gX9_allows_X9_tells rfl rfl rfl (by decide +kernel) ⟨Nat.le_of_ble_eq_true rfl, Nat.le_of_ble_eq_true rfl⟩) (x_preV Bz (by decide) (fun _ => rfl) rfl) rfl rfl hl.1 rfl (lv_room (Nat.le_of_ble_eq_true rfl)) dX9_allows_172 ⟨Nat.le_of_ble_eq_true rfl, Nat.le_of_ble_eq_true rfl⟩) (fun H locs B => ?_)
          refine lv_iconst (v := (0 : Int32)) hx hb dX9_allows_175 (by decide) ?_
          refine W.widen (k := 0) (n := 0) (Nat.le_of_ble_eq_true rfl) (Nat.le_of_ble_eq_true rfl) ?_
          exact x_iret hx hb hr (by decide) hlocks B hf dX9_allows_176
  have L37 : ∀ (n : Nat) (σ : zs) (v1 : Int32) (v3 : Int32) (v4 : Int32) (v5 : Int32) (v6 : Int32) (H : Heap) (locs : List Loc) (ls : Array Slot), zlp5 (f_X9_allows_37) n σ v1 v3 v4 v5 v6 = some (r, σ') → xB A s G ad σ H locs → lv_has ls 10 [(0, .ref (ad 65)), (1, .int v1), (3, .int v3), (4, .int v4), (5, .int v5), (6, .int v6)] → W p l e (headSpec wsX9_allows rm_X9_allows).room s m ([.ref (ad 65), .int a1, .int a2, .int a3, .int a4] : List Value).toArray below meth c H locs 0 0 (MQ below (va_Qi (fun r' (u : xV) => r' = r ∧ xQ σ' u) (xPost G ad σ' A) A) ([.ref (ad 65), .int a1, .int a2, .int a3, .int a4] : List Value).toArray s 0 0 A) (F0 m 37 ls []) := by
    intro n
    induction n with
    | zero =>
      intro σ v1 v3 v4 v5 v6 H locs ls hf
      cases hf
    | succ n ih =>
      intro σ v1 v3 v4 v5 v6 H locs ls hf B hl
      have hf : f_X9_allows_37 (zlp5 (f_X9_allows_37) n) σ v1 v3 v4 v5 v6 = some (r, σ') := hf
      unfold f_X9_allows_37 at hf
      refine lv_iload hx hb dX9_allows_37 (lv_at hl 5 rfl) ?_
      refine lv_iload hx hb dX9_allows_39 (lv_at hl 4 rfl) ?_
      refine lv_icmp_ge (tgt := 189) hx hb dX9_allows_41 (by decide) (fun hc => ?_) (fun hc => ?_)
      · have hf := zif_t hc hf
        refine lv_iconst (v := (1 : Int32)) hx hb dX9_allows_189 (by decide) ?_
        refine W.widen (k := 0) (n := 0) (Nat.le_of_ble_eq_true rfl) (Nat.le_of_ble_eq_true rfl) ?_
        exact x_iret hx hb hr (by decide) hlocks B hf dX9_allows_190
      · have hf := zif_f hc hf
        refine lv_aload_n hx hb dX9_allows_44 rfl (lv_at hl 0 rfl) ?_
        refine x_getr hx hb hts hinRX9 hown B 65 7 69 (by decide) (by decide) (fun _ => rfl) rfl rfl (by decide) (by decide +kernel) rfl dX9_allows_45 ?_
        refine lv_iload hx hb dX9_allows_48 (lv_at hl 5 rfl) ?_
        obtain ⟨hg, hf⟩ := zg_some hf
        refine x_iald hx hb B 69 (by decide) (fun _ => rfl) (zin_ok hg) dX9_allows_50 ?_
        refine lv_istore (lv' := [(7, .int (σ 69 v6.toNatClampNeg)), (0, .ref (ad 65)), (1, .int v1), (3, .int v3), (4, .int v4), (5, .int v5), (6, .int v6)]) hx hb dX9_allows_51 hl (by decide) rfl (fun ls hl => ?_)
        refine lv_aload_n hx hb dX9_allows_53 rfl (lv_at hl 1 rfl) ?_
        refine x_getr hx hb hts hinRX9 hown B 65 0 66 (by decide) (by decide) (fun _ => rfl) rfl rfl (by decide) (by decide +kernel) rfl dX9_allows_54 ?_
        refine lv_sipush (v := (135 : Int32)) hx hb dX9_allows_57 (by decide) ?_
        refine lv_iload hx hb dX9_allows_60 (lv_at hl 0 rfl) ?_
        refine lv_iadd hx hb dX9_allows_62 ?_
        obtain ⟨hg, hf⟩ := zg_some hf
        refine x_iald hx hb B 66 (by decide) (fun _ => rfl) (zin_ok hg) dX9_allows_63 ?_
        refine lv_if_lt (tgt := 95) hx hb dX9_allows_64 (by decide) (fun hc => ?_) (fun hc => ?_)
        · have hf := zif_t hc hf
          refine lv_iconst (v := (0 : Int32)) hx hb dX9_allows_95 (by decide) ?_
          refine lv_istore (lv' := [(8, .int (0 : Int32)), (7, .int (σ 69 v6.toNatClampNeg)), (0, .ref (ad 65)), (1, .int v1), (3, .int v3), (4, .int v4), (5, .int v5), (6, .int v6)]) hx hb dX9_allows_96 hl (by decide) rfl (fun ls hl => ?_)
          exact L98 _ ih  _ _ _ _ _ _ _ _ _ _ _ _ hf B (lv_sub hl [2, 3, 4, 5, 6, 7, 1, 0] rfl)
        · have hf := zif_f hc hf
          refine lv_aload_n hx hb dX9_allows_67 rfl (lv_at hl 1 rfl) ?_
          refine lv_iconst (v := (2 : Int32)) hx hb dX9_allows_68 (by decide) ?_
          refine lv_iload hx hb dX9_allows_69 (lv_at hl 0 rfl) ?_
          refine lv_iconst (v := (0 : Int32)) hx hb dX9_allows_71 (by decide) ?_
          obtain ⟨r26, σ27, hu25, hf⟩ := zb_some hf
          refine x_i B (fun nb a g hs Bz => va_runV (As := [.int (2 : Int32), .int (σ 69 v6.toNatClampNeg), .int (0 : Int32)]) (rest := []) ⟨hx, hb, hml, hown, hts⟩ (c_X9_reports l hu25 _ nb a g hs) (cwV 3 hts gX9_allows_X9_reports rfl rfl rfl (by decide +kernel) ⟨Nat.le_of_ble_eq_true rfl, Nat.le_of_ble_eq_true rfl⟩) (x_preV Bz (by decide) (fun _ => rfl) rfl) rfl rfl hl.1 rfl (lv_room (Nat.le_of_ble_eq_true rfl)) dX9_allows_72 ⟨Nat.le_of_ble_eq_true rfl, Nat.le_of_ble_eq_true rfl⟩) (fun H locs B => ?_)
          refine lv_istore (lv' := [(8, .int r26), (7, .int (σ 69 v6.toNatClampNeg)), (0, .ref (ad 65)), (1, .int v1), (3, .int v3), (4, .int v4), (5, .int v5), (6, .int v6)]) hx hb dX9_allows_75 hl (by decide) rfl (fun ls hl => ?_)
          refine lv_aload_n hx hb dX9_allows_77 rfl (lv_at hl 2 rfl) ?_
          refine lv_iconst (v := (3 : Int32)) hx hb dX9_allows_78 (by decide) ?_
          refine lv_aload_n hx hb dX9_allows_79 rfl (lv_at hl 2 rfl) ?_
          refine x_getr hx hb hts hinRX9 hown B 65 0 66 (by decide) (by decide) (fun _ => rfl) rfl rfl (by decide) (by decide +kernel) rfl dX9_allows_80 ?_
          refine lv_sipush (v := (135 : Int32)) hx hb dX9_allows_83 (by decide) ?_
          refine lv_iload hx hb dX9_allows_86 (lv_at hl 1 rfl) ?_
          refine lv_iadd hx hb dX9_allows_88 ?_
          obtain ⟨hg, hf⟩ := zg_some hf
          refine x_iald hx hb B 66 (by decide) (fun _ => rfl) (zin_ok hg) dX9_allows_89 ?_
          obtain ⟨r29, σ30, hu28, hf⟩ := zb_some hf
          refine x_v B (fun nb a g hs Bz => va_runV (As := [.int (3 : Int32), .int (σ27 66 ((135 : Int32) + (σ 69 v6.toNatClampNeg)).toNatClampNeg)]) (rest := []) ⟨hx, hb, hml, hown, hts⟩ (c_X9_tells l hu28 _ nb a g hs) (cwV 2 hts gX9_allows_X9_tells rfl rfl rfl (by decide +kernel) ⟨Nat.le_of_ble_eq_true rfl, Nat.le_of_ble_eq_true rfl⟩) (x_preV Bz (by decide) (fun _ => rfl) rfl) rfl rfl hl.1 rfl (lv_room (Nat.le_of_ble_eq_true rfl)) dX9_allows_90 ⟨Nat.le_of_ble_eq_true rfl, Nat.le_of_ble_eq_true rfl⟩) (fun H locs B => ?_)
          refine lv_iconst (v := (0 : Int32)) hx hb dX9_allows_93 (by decide) ?_
          refine W.widen (k := 0) (n := 0) (Nat.le_of_ble_eq_true rfl) (Nat.le_of_ble_eq_true rfl) ?_
          exact x_iret hx hb hr (by decide) hlocks B hf dX9_allows_94
  unfold f_X9_allows at hf
  refine lv_aload_n hx hb dX9_allows_0 rfl (lv_at hl 0 rfl) ?_
  refine x_getr hx hb hts hinRX9 hown B 65 0 66 (by decide) (by decide) (fun _ => rfl) rfl rfl (by decide) (by decide +kernel) rfl dX9_allows_1 ?_
  refine lv_bipush (v := (107 : Int32)) hx hb dX9_allows_4 (by decide) ?_
  refine lv_iload_n hx hb dX9_allows_6 rfl (lv_at hl 2 rfl) ?_
  refine lv_iadd hx hb dX9_allows_7 ?_
  obtain ⟨hg, hf⟩ := zg_some hf
  refine x_iald hx hb B 66 (by decide) (fun _ => rfl) (zin_ok hg) dX9_allows_8 ?_
  refine lv_iload_n hx hb dX9_allows_9 rfl (lv_at hl 1 rfl) ?_
  obtain ⟨r2, σ3, hu1, hf⟩ := zb_some hf
  refine x_i B (fun nb a g hs Bz => va_runS (As := [.int (σ 66 ((107 : Int32) + a2).toNatClampNeg), .int a1]) (rest := []) ⟨hx, hb, hml, hown, hts⟩ (c_X9_has l hu1 _ nb a g hs) (va_cwS 2 hts gX9_allows_X9_has rfl rfl rfl (by decide +kernel) ⟨Nat.le_of_ble_eq_true rfl, Nat.le_of_ble_eq_true rfl⟩) (z_preS Bz) rfl rfl hl.1 rfl (lv_room (Nat.le_of_ble_eq_true rfl)) dX9_allows_10 ⟨Nat.le_of_ble_eq_true rfl, Nat.le_of_ble_eq_true rfl⟩) (fun H locs B => ?_)
  refine lv_if_ne (tgt := 27) hx hb dX9_allows_13 (by decide) (fun hc => ?_) (fun hc => ?_)
  · have hf := zif_f hc hf
    refine lv_aload_n hx hb dX9_allows_27 rfl (lv_at hl 0 rfl) ?_
    refine lv_iload_n hx hb dX9_allows_28 rfl (lv_at hl 2 rfl) ?_
    obtain ⟨r5, σ6, hu4, hf⟩ := zb_some hf
    refine x_i B (fun nb a g hs Bz => va_runV (As := [.int a2]) (rest := []) ⟨hx, hb, hml, hown, hts⟩ (c_X9_chainOf l hu4 _ nb a g hs) (cwV 1 hts gX9_allows_X9_chainOf rfl rfl rfl (by decide +kernel) ⟨Nat.le_of_ble_eq_true rfl, Nat.le_of_ble_eq_true rfl⟩) (x_preV Bz (by decide) (fun _ => rfl) rfl) rfl rfl hl.1 rfl (lv_room (Nat.le_of_ble_eq_true rfl)) dX9_allows_29 ⟨Nat.le_of_ble_eq_true rfl, Nat.le_of_ble_eq_true rfl⟩) (fun H locs B => ?_)
    refine lv_istore (lv' := [(5, .int r5), (0, .ref (ad 65)), (1, .int a1), (2, .int a2), (3, .int a3), (4, .int a4)]) hx hb dX9_allows_32 hl (by decide) rfl (fun ls hl => ?_)
    refine lv_iconst (v := (0 : Int32)) hx hb dX9_allows_34 (by decide) ?_
    refine lv_istore (lv' := [(6, .int (0 : Int32)), (5, .int r5), (0, .ref (ad 65)), (1, .int a1), (2, .int a2), (3, .int a3), (4, .int a4)]) hx hb dX9_allows_35 hl (by decide) rfl (fun ls hl => ?_)
    exact L37  _ _ _ _ _ _ _ _ _ _ hf B (lv_sub hl [2, 3, 5, 6, 1, 0] rfl)
  · have hf := zif_t hc hf
    refine lv_aload_n hx hb dX9_allows_16 rfl (lv_at hl 0 rfl) ?_
    refine lv_iconst (v := (1 : Int32)) hx hb dX9_allows_17 (by decide) ?_
    refine lv_iload_n hx hb dX9_allows_18 rfl (lv_at hl 2 rfl) ?_
    refine lv_iconst (v := (0 : Int32)) hx hb dX9_allows_19 (by decide) ?_
    obtain ⟨r32, σ33, hu31, hf⟩ := zb_some hf
    refine x_i B (fun nb a g hs Bz => va_runV (As := [.int (1 : Int32), .int a2, .int (0 : Int32)]) (rest := []) ⟨hx, hb, hml, hown, hts⟩ (c_X9_reports l hu31 _ nb a g hs) (cwV 3 hts gX9_allows_X9_reports rfl rfl rfl (by decide +kernel) ⟨Nat.le_of_ble_eq_true rfl, Nat.le_of_ble_eq_true rfl⟩) (x_preV Bz (by decide) (fun _ => rfl) rfl) rfl rfl hl.1 rfl (lv_room (Nat.le_of_ble_eq_true rfl)) dX9_allows_20 ⟨Nat.le_of_ble_eq_true rfl, Nat.le_of_ble_eq_true rfl⟩) (fun H locs B => ?_)
    refine lv_istore (lv' := [(5, .int r32), (0, .ref (ad 65)), (1, .int a1), (2, .int a2), (3, .int a3), (4, .int a4)]) hx hb dX9_allows_23 hl (by decide) rfl (fun ls hl => ?_)
    refine lv_iconst (v := (0 : Int32)) hx hb dX9_allows_25 (by decide) ?_
    refine W.widen (k := 0) (n := 0) (Nat.le_of_ble_eq_true rfl) (Nat.le_of_ble_eq_true rfl) ?_
    exact x_iret hx hb hr (by decide) hlocks B hf dX9_allows_26
theorem dX9_makes_0 : decode cX9_makes 0 = .ok (.aload_n 0, 1) := by decide +kernel
theorem dX9_makes_1 : decode cX9_makes 1 = .ok (.getfield 9, 3) := by decide +kernel
theorem dX9_makes_4 : decode cX9_makes 4 = .ok (.iconst 1, 1) := by decide +kernel
theorem dX9_makes_5 : decode cX9_makes 5 = .ok (.iaload, 1) := by decide +kernel
theorem dX9_makes_6 : decode cX9_makes 6 = .ok (.istore 4, 2) := by decide +kernel
theorem dX9_makes_8 : decode cX9_makes 8 = .ok (.aload_n 0, 1) := by decide +kernel
theorem dX9_makes_9 : decode cX9_makes 9 = .ok (.getfield 9, 3) := by decide +kernel
theorem dX9_makes_12 : decode cX9_makes 12 = .ok (.bipush 51, 2) := by decide +kernel
theorem dX9_makes_14 : decode cX9_makes 14 = .ok (.iload 4, 2) := by decide +kernel
theorem dX9_makes_16 : decode cX9_makes 16 = .ok (.iadd, 1) := by decide +kernel
theorem dX9_makes_17 : decode cX9_makes 17 = .ok (.iload_n 2, 1) := by decide +kernel
theorem dX9_makes_18 : decode cX9_makes 18 = .ok (.iastore, 1) := by decide +kernel
theorem dX9_makes_19 : decode cX9_makes 19 = .ok (.aload_n 0, 1) := by decide +kernel
theorem dX9_makes_20 : decode cX9_makes 20 = .ok (.getfield 9, 3) := by decide +kernel
theorem dX9_makes_23 : decode cX9_makes 23 = .ok (.bipush 79, 2) := by decide +kernel
theorem dX9_makes_25 : decode cX9_makes 25 = .ok (.iload 4, 2) := by decide +kernel
theorem dX9_makes_27 : decode cX9_makes 27 = .ok (.iadd, 1) := by decide +kernel
theorem dX9_makes_28 : decode cX9_makes 28 = .ok (.iload_n 3, 1) := by decide +kernel
theorem dX9_makes_29 : decode cX9_makes 29 = .ok (.iastore, 1) := by decide +kernel
theorem dX9_makes_30 : decode cX9_makes 30 = .ok (.aload_n 0, 1) := by decide +kernel
theorem dX9_makes_31 : decode cX9_makes 31 = .ok (.getfield 9, 3) := by decide +kernel
theorem dX9_makes_34 : decode cX9_makes 34 = .ok (.bipush 107, 2) := by decide +kernel
theorem dX9_makes_36 : decode cX9_makes 36 = .ok (.iload 4, 2) := by decide +kernel
theorem dX9_makes_38 : decode cX9_makes 38 = .ok (.iadd, 1) := by decide +kernel
theorem dX9_makes_39 : decode cX9_makes 39 = .ok (.iconst 1, 1) := by decide +kernel
theorem dX9_makes_40 : decode cX9_makes 40 = .ok (.iload_n 1, 1) := by decide +kernel
theorem dX9_makes_41 : decode cX9_makes 41 = .ok (.ishl, 1) := by decide +kernel
theorem dX9_makes_42 : decode cX9_makes 42 = .ok (.iastore, 1) := by decide +kernel
theorem dX9_makes_43 : decode cX9_makes 43 = .ok (.aload_n 0, 1) := by decide +kernel
theorem dX9_makes_44 : decode cX9_makes 44 = .ok (.getfield 9, 3) := by decide +kernel
theorem dX9_makes_47 : decode cX9_makes 47 = .ok (.sipush 135, 3) := by decide +kernel
theorem dX9_makes_50 : decode cX9_makes 50 = .ok (.iload 4, 2) := by decide +kernel
theorem dX9_makes_52 : decode cX9_makes 52 = .ok (.iadd, 1) := by decide +kernel
theorem dX9_makes_53 : decode cX9_makes 53 = .ok (.iconst (-1), 1) := by decide +kernel
theorem dX9_makes_54 : decode cX9_makes 54 = .ok (.iastore, 1) := by decide +kernel
theorem dX9_makes_55 : decode cX9_makes 55 = .ok (.aload_n 0, 1) := by decide +kernel
theorem dX9_makes_56 : decode cX9_makes 56 = .ok (.getfield 9, 3) := by decide +kernel
theorem dX9_makes_59 : decode cX9_makes 59 = .ok (.sipush 163, 3) := by decide +kernel
theorem dX9_makes_62 : decode cX9_makes 62 = .ok (.iload 4, 2) := by decide +kernel
theorem dX9_makes_64 : decode cX9_makes 64 = .ok (.iadd, 1) := by decide +kernel
theorem dX9_makes_65 : decode cX9_makes 65 = .ok (.iconst 0, 1) := by decide +kernel
theorem dX9_makes_66 : decode cX9_makes 66 = .ok (.iastore, 1) := by decide +kernel
theorem dX9_makes_67 : decode cX9_makes 67 = .ok (.aload_n 0, 1) := by decide +kernel
theorem dX9_makes_68 : decode cX9_makes 68 = .ok (.getfield 9, 3) := by decide +kernel
theorem dX9_makes_71 : decode cX9_makes 71 = .ok (.sipush 191, 3) := by decide +kernel
theorem dX9_makes_74 : decode cX9_makes 74 = .ok (.iload 4, 2) := by decide +kernel
theorem dX9_makes_76 : decode cX9_makes 76 = .ok (.iadd, 1) := by decide +kernel
theorem dX9_makes_77 : decode cX9_makes 77 = .ok (.iconst 0, 1) := by decide +kernel
theorem dX9_makes_78 : decode cX9_makes 78 = .ok (.iastore, 1) := by decide +kernel
theorem dX9_makes_79 : decode cX9_makes 79 = .ok (.aload_n 0, 1) := by decide +kernel
theorem dX9_makes_80 : decode cX9_makes 80 = .ok (.getfield 9, 3) := by decide +kernel
theorem dX9_makes_83 : decode cX9_makes 83 = .ok (.iconst 1, 1) := by decide +kernel
theorem dX9_makes_84 : decode cX9_makes 84 = .ok (.dup2, 1) := by decide +kernel
theorem dX9_makes_85 : decode cX9_makes 85 = .ok (.iaload, 1) := by decide +kernel
theorem dX9_makes_86 : decode cX9_makes 86 = .ok (.iconst 1, 1) := by decide +kernel
theorem dX9_makes_87 : decode cX9_makes 87 = .ok (.iadd, 1) := by decide +kernel
theorem dX9_makes_88 : decode cX9_makes 88 = .ok (.iastore, 1) := by decide +kernel
theorem dX9_makes_89 : decode cX9_makes 89 = .ok (.iload 4, 2) := by decide +kernel
theorem dX9_makes_91 : decode cX9_makes 91 = .ok (.ireturn, 1) := by decide +kernel
def rm_X9_makes : Room := { frames := 1, cells := 0, slots := 0, locals := 16 }
set_option maxHeartbeats 4000000 in
set_option maxRecDepth 100000 in
theorem c_X9_makes (l : Launch) {G : zG} {ad : Nat → Nat} {σ σ' : zs} {a1 a2 a3 : Int32} {r : Int32} (hf : f_X9_makes σ a1 a2 a3 = some (r, σ')) : xMi l yX9_makes wsX9_makes rm_X9_makes G ad σ [.ref (ad 65), .int a1, .int a2, .int a3] r σ' := by
  intro sz nb a g hs
  refine Met.ofW (cc := cX9_makes) (maxL := 5) (ret := (some .int)) (by decide) rfl ?_
  intro p e s m args below meth c s₁ B hml hv
  obtain ⟨rfl, hsz, hv⟩ := hv
  have hx := B.exec
  have hb := B.bytes
  have hr := B.returns
  have hts := atoms_spec (ws := wsX9_makes) B.pre
  have hown : s.vm.findClass RX9 = some m.cls := findClass_of_methodNamed B.named
  have hlocks := B.notSynchronized
  subst hsz
  have B := xB_start hs hv
  have hinRX9 : ∀ w ∈ wsX90, w ∈ wsX9_makes := by decide +kernel
  have hl := lv_entry ([.ref (ad 65), .int a1, .int a2, .int a3]) (n := 5) (Nat.le_of_ble_eq_true rfl)
  rw [lg_entry_eq]
  generalize (lg_sl ([.ref (ad 65), .int a1, .int a2, .int a3]) ++ List.replicate (5 - (lg_sl ([.ref (ad 65), .int a1, .int a2, .int a3])).length) Slot.unset).toArray = ls at hl ⊢
  have hl : lv_has ls 5 [(0, .ref (ad 65)), (1, .int a1), (2, .int a2), (3, .int a3)] := hl
  generalize hAe : xA ad a s.heap.size = A at B ⊢
  unfold f_X9_makes at hf
  refine lv_aload_n hx hb dX9_makes_0 rfl (lv_at hl 0 rfl) ?_
  refine x_getr hx hb hts hinRX9 hown B 65 0 66 (by decide) (by decide) (fun _ => rfl) rfl rfl (by decide) (by decide +kernel) rfl dX9_makes_1 ?_
  refine lv_iconst (v := (1 : Int32)) hx hb dX9_makes_4 (by decide) ?_
  obtain ⟨hg, hf⟩ := zg_some hf
  refine x_iald hx hb B 66 (by decide) (fun _ => rfl) (zin_ok hg) dX9_makes_5 ?_
  refine lv_istore (lv' := [(4, .int (σ 66 (1 : Int32).toNatClampNeg)), (0, .ref (ad 65)), (1, .int a1), (2, .int a2), (3, .int a3)]) hx hb dX9_makes_6 hl (by decide) rfl (fun ls hl => ?_)
  refine lv_aload_n hx hb dX9_makes_8 rfl (lv_at hl 1 rfl) ?_
  refine x_getr hx hb hts hinRX9 hown B 65 0 66 (by decide) (by decide) (fun _ => rfl) rfl rfl (by decide) (by decide +kernel) rfl dX9_makes_9 ?_
  refine lv_bipush (v := (51 : Int32)) hx hb dX9_makes_12 (by decide) ?_
  refine lv_iload hx hb dX9_makes_14 (lv_at hl 0 rfl) ?_
  refine lv_iadd hx hb dX9_makes_16 ?_
  refine lv_iload_n hx hb dX9_makes_17 rfl (lv_at hl 3 rfl) ?_
  obtain ⟨hg, hf⟩ := zg_some hf
  refine x_iast hx hb B 66 (by decide) (by decide) (fun _ => rfl) (zin_ok hg) dX9_makes_18 (fun H locs B => ?_)
  refine lv_aload_n hx hb dX9_makes_19 rfl (lv_at hl 1 rfl) ?_
  refine x_getr hx hb hts hinRX9 hown B 65 0 66 (by decide) (by decide) (fun _ => rfl) rfl rfl (by decide) (by decide +kernel) rfl dX9_makes_20 ?_
  refine lv_bipush (v := (79 : Int32)) hx hb dX9_makes_23 (by decide) ?_
  refine lv_iload hx hb dX9_makes_25 (lv_at hl 0 rfl) ?_
  refine lv_iadd hx hb dX9_makes_27 ?_
  refine lv_iload_n hx hb dX9_makes_28 rfl (lv_at hl 4 rfl) ?_
  obtain ⟨hg, hf⟩ := zg_some hf
  refine x_iast hx hb B 66 (by decide) (by decide) (fun _ => rfl) (zin_ok hg) dX9_makes_29 (fun H locs B => ?_)
  refine lv_aload_n hx hb dX9_makes_30 rfl (lv_at hl 1 rfl) ?_
  refine x_getr hx hb hts hinRX9 hown B 65 0 66 (by decide) (by decide) (fun _ => rfl) rfl rfl (by decide) (by decide +kernel) rfl dX9_makes_31 ?_
  refine lv_bipush (v := (107 : Int32)) hx hb dX9_makes_34 (by decide) ?_
  refine lv_iload hx hb dX9_makes_36 (lv_at hl 0 rfl) ?_
  refine lv_iadd hx hb dX9_makes_38 ?_
  refine lv_iconst (v := (1 : Int32)) hx hb dX9_makes_39 (by decide) ?_
  refine lv_iload_n hx hb dX9_makes_40 rfl (lv_at hl 2 rfl) ?_
  refine lv_ishl hx hb dX9_makes_41 ?_
  obtain ⟨hg, hf⟩ := zg_some hf
  refine x_iast hx hb B 66 (by decide) (by decide) (fun _ => rfl) (zin_ok hg) dX9_makes_42 (fun H locs B => ?_)
  refine lv_aload_n hx hb dX9_makes_43 rfl (lv_at hl 1 rfl) ?_
  refine x_getr hx hb hts hinRX9 hown B 65 0 66 (by decide) (by decide) (fun _ => rfl) rfl rfl (by decide) (by decide +kernel) rfl dX9_makes_44 ?_
  refine lv_sipush (v := (135 : Int32)) hx hb dX9_makes_47 (by decide) ?_
  refine lv_iload hx hb dX9_makes_50 (lv_at hl 0 rfl) ?_
  refine lv_iadd hx hb dX9_makes_52 ?_
  refine lv_iconst (v := (-1 : Int32)) hx hb dX9_makes_53 (by decide) ?_
  obtain ⟨hg, hf⟩ := zg_some hf
  refine x_iast hx hb B 66 (by decide) (by decide) (fun _ => rfl) (zin_ok hg) dX9_makes_54 (fun H locs B => ?_)
  refine lv_aload_n hx hb dX9_makes_55 rfl (lv_at hl 1 rfl) ?_
  refine x_getr hx hb hts hinRX9 hown B 65 0 66 (by decide) (by decide) (fun _ => rfl) rfl rfl (by decide) (by decide +kernel) rfl dX9_makes_56 ?_
  refine lv_sipush (v := (163 : Int32)) hx hb dX9_makes_59 (by decide) ?_
  refine lv_iload hx hb dX9_makes_62 (lv_at hl 0 rfl) ?_
  refine lv_iadd hx hb dX9_makes_64 ?_
  refine lv_iconst (v := (0 : Int32)) hx hb dX9_makes_65 (by decide) ?_
  obtain ⟨hg, hf⟩ := zg_some hf
  refine x_iast hx hb B 66 (by decide) (by decide) (fun _ => rfl) (zin_ok hg) dX9_makes_66 (fun H locs B => ?_)
  refine lv_aload_n hx hb dX9_makes_67 rfl (lv_at hl 1 rfl) ?_
  refine x_getr hx hb hts hinRX9 hown B 65 0 66 (by decide) (by decide) (fun _ => rfl) rfl rfl (by decide) (by decide +kernel) rfl dX9_makes_68 ?_
  refine lv_sipush (v := (191 : Int32)) hx hb dX9_makes_71 (by decide) ?_
  refine lv_iload hx hb dX9_makes_74 (lv_at hl 0 rfl) ?_
  refine lv_iadd hx hb dX9_makes_76 ?_
  refine lv_iconst (v := (0 : Int32)) hx hb dX9_makes_77 (by decide) ?_
  obtain ⟨hg, hf⟩ := zg_some hf
  refine x_iast hx hb B 66 (by decide) (by decide) (fun _ => rfl) (zin_ok hg) dX9_makes_78 (fun H locs B => ?_)
  refine lv_aload_n hx hb dX9_makes_79 rfl (lv_at hl 1 rfl) ?_
  refine x_getr hx hb hts hinRX9 hown B 65 0 66 (by decide) (by decide) (fun _ => rfl) rfl rfl (by decide) (by decide +kernel) rfl dX9_makes_80 ?_
  refine lv_iconst (v := (1 : Int32)) hx hb dX9_makes_83 (by decide) ?_
  refine lv_dup2_11 hx hb dX9_makes_84 rfl rfl ?_
  obtain ⟨hg, hf⟩ := zg_some hf
  refine x_iald hx hb B 66 (by decide) (fun _ => rfl) (zin_ok hg) dX9_makes_85 ?_
  refine lv_iconst (v := (1 : Int32)) hx hb dX9_makes_86 (by decide) ?_
  refine lv_iadd hx hb dX9_makes_87 ?_
  obtain ⟨hg, hf⟩ := zg_some hf
  refine x_iast hx hb B 66 (by decide) (by decide) (fun _ => rfl) (zin_ok hg) dX9_makes_88 (fun H locs B => ?_)
  refine lv_iload hx hb dX9_makes_89 (lv_at hl 0 rfl) ?_
  refine W.widen (k := 0) (n := 0) (Nat.le_of_ble_eq_true rfl) (Nat.le_of_ble_eq_true rfl) ?_
  exact x_iret hx hb hr rfl hlocks B hf dX9_makes_91
theorem dX9_adds_0 : decode cX9_adds 0 = .ok (.sipush 219, 3) := by decide +kernel
theorem dX9_adds_3 : decode cX9_adds 3 = .ok (.iconst 3, 1) := by decide +kernel
theorem dX9_adds_4 : decode cX9_adds 4 = .ok (.iconst 4, 1) := by decide +kernel
theorem dX9_adds_5 : decode cX9_adds 5 = .ok (.iload_n 1, 1) := by decide +kernel
theorem dX9_adds_6 : decode cX9_adds 6 = .ok (.imul, 1) := by decide +kernel
theorem dX9_adds_7 : decode cX9_adds 7 = .ok (.aload_n 0, 1) := by decide +kernel
theorem dX9_adds_8 : decode cX9_adds 8 = .ok (.getfield 9, 3) := by decide +kernel
theorem dX9_adds_11 : decode cX9_adds 11 = .ok (.sipush 191, 3) := by decide +kernel
theorem dX9_adds_14 : decode cX9_adds 14 = .ok (.iload_n 1, 1) := by decide +kernel
theorem dX9_adds_15 : decode cX9_adds 15 = .ok (.iadd, 1) := by decide +kernel
theorem dX9_adds_16 : decode cX9_adds 16 = .ok (.iaload, 1) := by decide +kernel
theorem dX9_adds_17 : decode cX9_adds 17 = .ok (.iadd, 1) := by decide +kernel
theorem dX9_adds_18 : decode cX9_adds 18 = .ok (.imul, 1) := by decide +kernel
theorem dX9_adds_19 : decode cX9_adds 19 = .ok (.iadd, 1) := by decide +kernel
theorem dX9_adds_20 : decode cX9_adds 20 = .ok (.istore 5, 2) := by decide +kernel
theorem dX9_adds_22 : decode cX9_adds 22 = .ok (.aload_n 0, 1) := by decide +kernel
theorem dX9_adds_23 : decode cX9_adds 23 = .ok (.getfield 9, 3) := by decide +kernel
theorem dX9_adds_26 : decode cX9_adds 26 = .ok (.iload 5, 2) := by decide +kernel
theorem dX9_adds_28 : decode cX9_adds 28 = .ok (.iload_n 2, 1) := by decide +kernel
theorem dX9_adds_29 : decode cX9_adds 29 = .ok (.iastore, 1) := by decide +kernel
theorem dX9_adds_30 : decode cX9_adds 30 = .ok (.aload_n 0, 1) := by decide +kernel
theorem dX9_adds_31 : decode cX9_adds 31 = .ok (.getfield 9, 3) := by decide +kernel
theorem dX9_adds_34 : decode cX9_adds 34 = .ok (.iload 5, 2) := by decide +kernel
theorem dX9_adds_36 : decode cX9_adds 36 = .ok (.iconst 1, 1) := by decide +kernel
theorem dX9_adds_37 : decode cX9_adds 37 = .ok (.iadd, 1) := by decide +kernel
theorem dX9_adds_38 : decode cX9_adds 38 = .ok (.iload_n 3, 1) := by decide +kernel
theorem dX9_adds_39 : decode cX9_adds 39 = .ok (.iastore, 1) := by decide +kernel
theorem dX9_adds_40 : decode cX9_adds 40 = .ok (.aload_n 0, 1) := by decide +kernel
theorem dX9_adds_41 : decode cX9_adds 41 = .ok (.getfield 9, 3) := by decide +kernel
theorem dX9_adds_44 : decode cX9_adds 44 = .ok (.iload 5, 2) := by decide +kernel
theorem dX9_adds_46 : decode cX9_adds 46 = .ok (.iconst 2, 1) := by decide +kernel
theorem dX9_adds_47 : decode cX9_adds 47 = .ok (.iadd, 1) := by decide +kernel
theorem dX9_adds_48 : decode cX9_adds 48 = .ok (.iload 4, 2) := by decide +kernel
theorem dX9_adds_50 : decode cX9_adds 50 = .ok (.iastore, 1) := by decide +kernel
theorem dX9_adds_51 : decode cX9_adds 51 = .ok (.aload_n 0, 1) := by decide +kernel
theorem dX9_adds_52 : decode cX9_adds 52 = .ok (.getfield 9, 3) := by decide +kernel
theorem dX9_adds_55 : decode cX9_adds 55 = .ok (.sipush 191, 3) := by decide +kernel
theorem dX9_adds_58 : decode cX9_adds 58 = .ok (.iload_n 1, 1) := by decide +kernel
theorem dX9_adds_59 : decode cX9_adds 59 = .ok (.iadd, 1) := by decide +kernel
theorem dX9_adds_60 : decode cX9_adds 60 = .ok (.dup2, 1) := by decide +kernel
theorem dX9_adds_61 : decode cX9_adds 61 = .ok (.iaload, 1) := by decide +kernel
theorem dX9_adds_62 : decode cX9_adds 62 = .ok (.iconst 1, 1) := by decide +kernel
theorem dX9_adds_63 : decode cX9_adds 63 = .ok (.iadd, 1) := by decide +kernel
theorem dX9_adds_64 : decode cX9_adds 64 = .ok (.iastore, 1) := by decide +kernel
theorem dX9_adds_65 : decode cX9_adds 65 = .ok (.return_, 1) := by decide +kernel
def rm_X9_adds : Room := { frames := 1, cells := 0, slots := 0, locals := 16 }
set_option maxHeartbeats 4000000 in
set_option maxRecDepth 100000 in
theorem c_X9_adds (l : Launch) {G : zG} {ad : Nat → Nat} {σ σ' : zs} {a1 a2 a3 a4 : Int32} {r : Int32} (hf : f_X9_adds σ a1 a2 a3 a4 = some (r, σ')) : xMv l yX9_adds wsX9_adds rm_X9_adds G ad σ [.ref (ad 65), .int a1, .int a2, .int a3, .int a4] σ' := by
  intro sz nb a g hs
  refine Met.ofW (cc := cX9_adds) (maxL := 6) (ret := none) (by decide) rfl ?_
  intro p e s m args below meth c s₁ B hml hv
  obtain ⟨rfl, hsz, hv⟩ := hv
  have hx := B.exec
  have hb := B.bytes
  have hr := B.returns
  have hts := atoms_spec (ws := wsX9_adds) B.pre
  have hown : s.vm.findClass RX9 = some m.cls := findClass_of_methodNamed B.named
  have hlocks := B.notSynchronized
  subst hsz
  have B := xB_start hs hv
  have hinRX9 : ∀ w ∈ wsX90, w ∈ wsX9_adds := by decide +kernel
  have hl := lv_entry ([.ref (ad 65), .int a1, .int a2, .int a3, .int a4]) (n := 6) (Nat.le_of_ble_eq_true rfl)
  rw [lg_entry_eq]
  generalize (lg_sl ([.ref (ad 65), .int a1, .int a2, .int a3, .int a4]) ++ List.replicate (6 - (lg_sl ([.ref (ad 65), .int a1, .int a2, .int a3, .int a4])).length) Slot.unset).toArray = ls at hl ⊢
  have hl : lv_has ls 6 [(0, .ref (ad 65)), (1, .int a1), (2, .int a2), (3, .int a3), (4, .int a4)] := hl
  generalize hAe : xA ad a s.heap.size = A at B ⊢
  unfold f_X9_adds at hf
  refine lv_sipush (v := (219 : Int32)) hx hb dX9_adds_0 (by decide) ?_
  refine lv_iconst (v := (3 : Int32)) hx hb dX9_adds_3 (by decide) ?_
  refine lv_iconst (v := (4 : Int32)) hx hb dX9_adds_4 (by decide) ?_
  refine lv_iload_n hx hb dX9_adds_5 rfl (lv_at hl 1 rfl) ?_
  refine lv_imul hx hb dX9_adds_6 ?_
  refine lv_aload_n hx hb dX9_adds_7 rfl (lv_at hl 0 rfl) ?_
  refine x_getr hx hb hts hinRX9 hown B 65 0 66 (by decide) (by decide) (fun _ => rfl) rfl rfl (by decide) (by decide +kernel) rfl dX9_adds_8 ?_
  refine lv_sipush (v := (191 : Int32)) hx hb dX9_adds_11 (by decide) ?_
  refine lv_iload_n hx hb dX9_adds_14 rfl (lv_at hl 1 rfl) ?_
  refine lv_iadd hx hb dX9_adds_15 ?_
  obtain ⟨hg, hf⟩ := zg_some hf
  refine x_iald hx hb B 66 (by decide) (fun _ => rfl) (zin_ok hg) dX9_adds_16 ?_
  refine lv_iadd hx hb dX9_adds_17 ?_
  refine lv_imul hx hb dX9_adds_18 ?_
  refine lv_iadd hx hb dX9_adds_19 ?_
  refine lv_istore (lv' := [(5, .int ((219 : Int32) + ((3 : Int32) * (((4 : Int32) * a1) + (σ 66 ((191 : Int32) + a1).toNatClampNeg))))), (0, .ref (ad 65)), (1, .int a1), (2, .int a2), (3, .int a3), (4, .int a4)]) hx hb dX9_adds_20 hl (by decide) rfl (fun ls hl => ?_)
  refine lv_aload_n hx hb dX9_adds_22 rfl (lv_at hl 1 rfl) ?_
  refine x_getr hx hb hts hinRX9 hown B 65 0 66 (by decide) (by decide) (fun _ => rfl) rfl rfl (by decide) (by decide +kernel) rfl dX9_adds_23 ?_
  refine lv_iload hx hb dX9_adds_26 (lv_at hl 0 rfl) ?_
  refine lv_iload_n hx hb dX9_adds_28 rfl (lv_at hl 3 rfl) ?_
  obtain ⟨hg, hf⟩ := zg_some hf
  refine x_iast hx hb B 66 (by decide) (by decide) (fun _ => rfl) (zin_ok hg) dX9_adds_29 (fun H locs B => ?_)
  refine lv_aload_n hx hb dX9_adds_30 rfl (lv_at hl 1 rfl) ?_
  refine x_getr hx hb hts hinRX9 hown B 65 0 66 (by decide) (by decide) (fun _ => rfl) rfl rfl (by decide) (by decide +kernel) rfl dX9_adds_31 ?_
  refine lv_iload hx hb dX9_adds_34 (lv_at hl 0 rfl) ?_
  refine lv_iconst (v := (1 : Int32)) hx hb dX9_adds_36 (by decide) ?_
  refine lv_iadd hx hb dX9_adds_37 ?_
  refine lv_iload_n hx hb dX9_adds_38 rfl (lv_at hl 4 rfl) ?_
  obtain ⟨hg, hf⟩ := zg_some hf
  refine x_iast hx hb B 66 (by decide) (by decide) (fun _ => rfl) (zin_ok hg) dX9_adds_39 (fun H locs B => ?_)
  refine lv_aload_n hx hb dX9_adds_40 rfl (lv_at hl 1 rfl) ?_
  refine x_getr hx hb hts hinRX9 hown B 65 0 66 (by decide) (by decide) (fun _ => rfl) rfl rfl (by decide) (by decide +kernel) rfl dX9_adds_41 ?_
  refine lv_iload hx hb dX9_adds_44 (lv_at hl 0 rfl) ?_
  refine lv_iconst (v := (2 : Int32)) hx hb dX9_adds_46 (by decide) ?_
  refine lv_iadd hx hb dX9_adds_47 ?_
  refine lv_iload hx hb dX9_adds_48 (lv_at hl 5 rfl) ?_
  obtain ⟨hg, hf⟩ := zg_some hf
  refine x_iast hx hb B 66 (by decide) (by decide) (fun _ => rfl) (zin_ok hg) dX9_adds_50 (fun H locs B => ?_)
  refine lv_aload_n hx hb dX9_adds_51 rfl (lv_at hl 1 rfl) ?_
  refine x_getr hx hb hts hinRX9 hown B 65 0 66 (by decide) (by decide) (fun _ => rfl) rfl rfl (by decide) (by decide +kernel) rfl dX9_adds_52 ?_
  refine lv_sipush (v := (191 : Int32)) hx hb dX9_adds_55 (by decide) ?_
  refine lv_iload_n hx hb dX9_adds_58 rfl (lv_at hl 2 rfl) ?_
  refine lv_iadd hx hb dX9_adds_59 ?_
  refine lv_dup2_11 hx hb dX9_adds_60 rfl rfl ?_
  obtain ⟨hg, hf⟩ := zg_some hf
  refine x_iald hx hb B 66 (by decide) (fun _ => rfl) (zin_ok hg) dX9_adds_61 ?_
  refine lv_iconst (v := (1 : Int32)) hx hb dX9_adds_62 (by decide) ?_
  refine lv_iadd hx hb dX9_adds_63 ?_
  obtain ⟨hg, hf⟩ := zg_some hf
  refine x_iast hx hb B 66 (by decide) (by decide) (fun _ => rfl) (zin_ok hg) dX9_adds_64 (fun H locs B => ?_)
  refine W.widen (k := 0) (n := 0) (Nat.le_of_ble_eq_true rfl) (Nat.le_of_ble_eq_true rfl) ?_
  exact x_vret hx hb hr hlocks B hf dX9_adds_65
theorem dX9_mint_0 : decode cX9_mint 0 = .ok (.aload_n 0, 1) := by decide +kernel
theorem dX9_mint_1 : decode cX9_mint 1 = .ok (.iload_n 1, 1) := by decide +kernel
theorem dX9_mint_2 : decode cX9_mint 2 = .ok (.invokestatic 78, 3) := by decide +kernel
theorem dX9_mint_5 : decode cX9_mint 5 = .ok (.ifCond .eq 10, 3) := by decide +kernel
theorem dX9_mint_8 : decode cX9_mint 8 = .ok (.iload_n 2, 1) := by decide +kernel
theorem dX9_mint_9 : decode cX9_mint 9 = .ok (.invokestatic 82, 3) := by decide +kernel
theorem dX9_mint_12 : decode cX9_mint 12 = .ok (.ifCond .ne 7, 3) := by decide +kernel
theorem dX9_mint_15 : decode cX9_mint 15 = .ok (.iconst 1, 1) := by decide +kernel
theorem dX9_mint_16 : decode cX9_mint 16 = .ok (.goto 33, 3) := by decide +kernel
theorem dX9_mint_19 : decode cX9_mint 19 = .ok (.iload_n 3, 1) := by decide +kernel
theorem dX9_mint_20 : decode cX9_mint 20 = .ok (.iconst 0, 1) := by decide +kernel
theorem dX9_mint_21 : decode cX9_mint 21 = .ok (.bipush 15, 2) := by decide +kernel
theorem dX9_mint_23 : decode cX9_mint 23 = .ok (.invokestatic 44, 3) := by decide +kernel
theorem dX9_mint_26 : decode cX9_mint 26 = .ok (.ifCond .ne 7, 3) := by decide +kernel
theorem dX9_mint_29 : decode cX9_mint 29 = .ok (.iconst 2, 1) := by decide +kernel
theorem dX9_mint_30 : decode cX9_mint 30 = .ok (.goto 19, 3) := by decide +kernel
theorem dX9_mint_33 : decode cX9_mint 33 = .ok (.aload_n 0, 1) := by decide +kernel
theorem dX9_mint_34 : decode cX9_mint 34 = .ok (.getfield 9, 3) := by decide +kernel
theorem dX9_mint_37 : decode cX9_mint 37 = .ok (.iconst 1, 1) := by decide +kernel
theorem dX9_mint_38 : decode cX9_mint 38 = .ok (.iaload, 1) := by decide +kernel
theorem dX9_mint_39 : decode cX9_mint 39 = .ok (.bipush 28, 2) := by decide +kernel
theorem dX9_mint_41 : decode cX9_mint 41 = .ok (.if_icmp .ne 7, 3) := by decide +kernel
theorem dX9_mint_44 : decode cX9_mint 44 = .ok (.iconst 3, 1) := by decide +kernel
theorem dX9_mint_45 : decode cX9_mint 45 = .ok (.goto 4, 3) := by decide +kernel
theorem dX9_mint_48 : decode cX9_mint 48 = .ok (.iconst 0, 1) := by decide +kernel
theorem dX9_mint_49 : decode cX9_mint 49 = .ok (.putfield 41, 3) := by decide +kernel
theorem dX9_mint_52 : decode cX9_mint 52 = .ok (.aload_n 0, 1) := by decide +kernel
theorem dX9_mint_53 : decode cX9_mint 53 = .ok (.getfield 41, 3) := by decide +kernel
theorem dX9_mint_56 : decode cX9_mint 56 = .ok (.ifCond .eq 5, 3) := by decide +kernel
theorem dX9_mint_59 : decode cX9_mint 59 = .ok (.iconst 0, 1) := by decide +kernel
theorem dX9_mint_60 : decode cX9_mint 60 = .ok (.ireturn, 1) := by decide +kernel
theorem dX9_mint_61 : decode cX9_mint 61 = .ok (.aload_n 0, 1) := by decide +kernel
theorem dX9_mint_62 : decode cX9_mint 62 = .ok (.iload_n 1, 1) := by decide +kernel
theorem dX9_mint_63 : decode cX9_mint 63 = .ok (.iload_n 2, 1) := by decide +kernel
theorem dX9_mint_64 : decode cX9_mint 64 = .ok (.iconst (-1), 1) := by decide +kernel
theorem dX9_mint_65 : decode cX9_mint 65 = .ok (.invokevirtual 85, 3) := by decide +kernel
theorem dX9_mint_68 : decode cX9_mint 68 = .ok (.istore 4, 2) := by decide +kernel
theorem dX9_mint_70 : decode cX9_mint 70 = .ok (.aload_n 0, 1) := by decide +kernel
theorem dX9_mint_71 : decode cX9_mint 71 = .ok (.iload 4, 2) := by decide +kernel
theorem dX9_mint_73 : decode cX9_mint 73 = .ok (.iconst 0, 1) := by decide +kernel
theorem dX9_mint_74 : decode cX9_mint 74 = .ok (.iload_n 3, 1) := by decide +kernel
theorem dX9_mint_75 : decode cX9_mint 75 = .ok (.iconst (-1), 1) := by decide +kernel
theorem dX9_mint_76 : decode cX9_mint 76 = .ok (.invokevirtual 88, 3) := by decide +kernel
theorem dX9_mint_79 : decode cX9_mint 79 = .ok (.iload 4, 2) := by decide +kernel
theorem dX9_mint_81 : decode cX9_mint 81 = .ok (.ireturn, 1) := by decide +kernel
set_option maxRecDepth 20000 in
theorem ggX9_mint_X9_isSubject : GoodIn wsX9_mint wsX9_isSubject := goodIn_r _ [6, 7, 8, 5, 9] (by decide +kernel) (by decide +kernel)
set_option maxRecDepth 20000 in
theorem gX9_mint_X9_isSubject : GoodIn wsX9_mint (va_wsS RX9 78 yX9_isSubject wsX9_isSubject) := goodIn_app (goodIn_of _ (by decide +kernel)) ggX9_mint_X9_isSubject
set_option maxRecDepth 20000 in
theorem ggX9_mint_X9_makes : GoodIn wsX9_mint wsX9_makes := goodIn_ca (goodIn_r _ [16, 1, 21, 22, 23, 24, 25, 26, 27, 28, 29, 30, 31, 32, 33, 34, 35, 36, 37, 38, 39, 40] (by decide +kernel) (by decide +kernel)) (goodIn_sub (fun _ h => List.mem_cons_of_mem _ (List.mem_append_right _ h)) (by decide +kernel))
set_option maxRecDepth 20000 in
theorem gX9_mint_X9_makes : GoodIn wsX9_mint (wsV RX9 85 RX9 yX9_makes wsX9_makes) := goodIn_app (goodIn_of _ (by decide +kernel)) ggX9_mint_X9_makes
set_option maxRecDepth 20000 in
theorem ggX9_mint_X9_adds : GoodIn wsX9_mint wsX9_adds := goodIn_ca (goodIn_r _ [20, 1, 21, 22, 23, 24, 25, 26, 27, 28, 29, 30, 31, 32, 33, 34, 35, 36, 37, 38, 39, 40] (by decide +kernel) (by decide +kernel)) (goodIn_sub (fun _ h => List.mem_cons_of_mem _ (List.mem_append_right _ h)) (by decide +kernel))
set_option maxRecDepth 20000 in
theorem gX9_mint_X9_adds : GoodIn wsX9_mint (wsV RX9 88 RX9 yX9_adds wsX9_adds) := goodIn_app (goodIn_of _ (by decide +kernel)) ggX9_mint_X9_adds
set_option maxRecDepth 20000 in
theorem ggX9_mint_X9_isObject : GoodIn wsX9_mint wsX9_isObject := goodIn_r _ [12, 7, 8, 5, 9] (by decide +kernel) (by decide +kernel)
set_option maxRecDepth 20000 in
theorem gX9_mint_X9_isObject : GoodIn wsX9_mint (va_wsS RX9 82 yX9_isObject wsX9_isObject) := goodIn_app (goodIn_of _ (by decide +kernel)) ggX9_mint_X9_isObject
set_option maxRecDepth 20000 in
theorem ggX9_mint_X9_isIn : GoodIn wsX9_mint wsX9_isIn := goodIn_r _ [9] (by decide +kernel) (by decide +kernel)
set_option maxRecDepth 20000 in
theorem gX9_mint_X9_isIn : GoodIn wsX9_mint (va_wsS RX9 44 yX9_isIn wsX9_isIn) := goodIn_app (goodIn_of _ (by decide +kernel)) ggX9_mint_X9_isIn
def rm_X9_mint : Room := { frames := 3, cells := 0, slots := 0, locals := 58 }
set_option maxHeartbeats 4000000 in
set_option maxRecDepth 100000 in
theorem c_X9_mint (l : Launch) {G : zG} {ad : Nat → Nat} {σ σ' : zs} {a1 a2 a3 : Int32} {r : Int32} (hf : f_X9_mint σ a1 a2 a3 = some (r, σ')) : xMi l yX9_mint wsX9_mint rm_X9_mint G ad σ [.ref (ad 65), .int a1, .int a2, .int a3] r σ' := by
  intro sz nb a g hs
  refine Met.ofW (cc := cX9_mint) (maxL := 5) (ret := (some .int)) (by decide) rfl ?_
  intro p e s m args below meth c s₁ B hml hv
  obtain ⟨rfl, hsz, hv⟩ := hv
  have hx := B.exec
  have hb := B.bytes
  have hr := B.returns
  have hts := atoms_spec (ws := wsX9_mint) B.pre
  have hown : s.vm.findClass RX9 = some m.cls := findClass_of_methodNamed B.named
  have hlocks := B.notSynchronized
  subst hsz
  have B := xB_start hs hv
  have hinRX9 : ∀ w ∈ wsX90, w ∈ wsX9_mint := by decide +kernel
  have hl := lv_entry ([.ref (ad 65), .int a1, .int a2, .int a3]) (n := 5) (Nat.le_of_ble_eq_true rfl)
  rw [lg_entry_eq]
  generalize (lg_sl ([.ref (ad 65), .int a1, .int a2, .int a3]) ++ List.replicate (5 - (lg_sl ([.ref (ad 65), .int a1, .int a2, .int a3])).length) Slot.unset).toArray = ls at hl ⊢
  have hl : lv_has ls 5 [(0, .ref (ad 65)), (1, .int a1), (2, .int a2), (3, .int a3)] := hl
  generalize hAe : xA ad a s.heap.size = A at B ⊢
  have L49 : ∀ (σ : zs) (v1 : Int32) (v2 : Int32) (v3 : Int32) (s0 : Int32) (H : Heap) (locs : List Loc) (ls : Array Slot), f_X9_mint_49 σ v1 v2 v3 s0 = some (r, σ') → xB A s G ad σ H locs → lv_has ls 5 [(0, .ref (ad 65)), (1, .int v1), (2, .int v2), (3, .int v3)] → W p l e (headSpec wsX9_mint rm_X9_mint).room s m ([.ref (ad 65), .int a1, .int a2, .int a3] : List Value).toArray below meth c H locs 0 0 (MQ below (va_Qi (fun r' (u : xV) => r' = r ∧ xQ σ' u) (xPost G ad σ' A) A) ([.ref (ad 65), .int a1, .int a2, .int a3] : List Value).toArray s 0 0 A) (F0 m 49 ls [.int s0, .ref (ad 65)]) := by
    intro σ v1 v2 v3 s0 H locs ls hf B hl
    unfold f_X9_mint_49 at hf
    refine x_puti hx hb hts hinRX9 hown tyX9 tyX9_ok nmX9 B 65 3 (by decide) (by decide) (fun _ => rfl) rfl rfl (by decide) (by decide +kernel) rfl rfl rfl rfl dX9_mint_49 (fun H locs B => ?_)
    refine lv_aload_n hx hb dX9_mint_52 rfl (lv_at hl 0 rfl) ?_
    refine x_geti hx hb hts hinRX9 hown B 65 3 (by decide) (fun _ => rfl) rfl rfl (by decide) (by decide +kernel) rfl dX9_mint_53 ?_
    refine lv_if_eq (tgt := 61) hx hb dX9_mint_56 (by decide) (fun hc => ?_) (fun hc => ?_)
    · have hf := zif_t hc hf
      refine lv_aload_n hx hb dX9_mint_61 rfl (lv_at hl 0 rfl) ?_
      refine lv_iload_n hx hb dX9_mint_62 rfl (lv_at hl 1 rfl) ?_
      refine lv_iload_n hx hb dX9_mint_63 rfl (lv_at hl 2 rfl) ?_
      refine lv_iconst (v := (-1 : Int32)) hx hb dX9_mint_64 (by decide) ?_
      obtain ⟨r5, σ6, hu4, hf⟩ := zb_some hf
      refine x_i B (fun nb a g hs Bz => va_runV (As := [.int v1, .int v2, .int (-1 : Int32)]) (rest := []) ⟨hx, hb, hml, hown, hts⟩ (c_X9_makes l hu4 _ nb a g hs) (cwV 3 hts gX9_mint_X9_makes rfl rfl rfl (by decide +kernel) ⟨Nat.le_of_ble_eq_true rfl, Nat.le_of_ble_eq_true rfl⟩) (x_preV Bz (by decide) (fun _ => rfl) rfl) rfl rfl hl.1 rfl (lv_room (Nat.le_of_ble_eq_true rfl)) dX9_mint_65 ⟨Nat.le_of_ble_eq_true rfl, Nat.le_of_ble_eq_true rfl⟩) (fun H locs B => ?_)
      refine lv_istore (lv' := [(4, .int r5), (0, .ref (ad 65)), (1, .int v1), (2, .int v2), (3, .int v3)]) hx hb dX9_mint_68 hl (by decide) rfl (fun ls hl => ?_)
      refine lv_aload_n hx hb dX9_mint_70 rfl (lv_at hl 1 rfl) ?_
      refine lv_iload hx hb dX9_mint_71 (lv_at hl 0 rfl) ?_
      refine lv_iconst (v := (0 : Int32)) hx hb dX9_mint_73 (by decide) ?_
      refine lv_iload_n hx hb dX9_mint_74 rfl (lv_at hl 4 rfl) ?_
      refine lv_iconst (v := (-1 : Int32)) hx hb dX9_mint_75 (by decide) ?_
      obtain ⟨r8, σ9, hu7, hf⟩ := zb_some hf
      refine x_v B (fun nb a g hs Bz => va_runV (As := [.int r5, .int (0 : Int32), .int v3, .int (-1 : Int32)]) (rest := []) ⟨hx, hb, hml, hown, hts⟩ (c_X9_adds l hu7 _ nb a g hs) (cwV 4 hts gX9_mint_X9_adds rfl rfl rfl (by decide +kernel) ⟨Nat.le_of_ble_eq_true rfl, Nat.le_of_ble_eq_true rfl⟩) (x_preV Bz (by decide) (fun _ => rfl) rfl) rfl rfl hl.1 rfl (lv_room (Nat.le_of_ble_eq_true rfl)) dX9_mint_76 ⟨Nat.le_of_ble_eq_true rfl, Nat.le_of_ble_eq_true rfl⟩) (fun H locs B => ?_)
      refine lv_iload hx hb dX9_mint_79 (lv_at hl 0 rfl) ?_
      refine W.widen (k := 0) (n := 0) (Nat.le_of_ble_eq_true rfl) (Nat.le_of_ble_eq_true rfl) ?_
      exact x_iret hx hb hr rfl hlocks B hf dX9_mint_81
    · have hf := zif_f hc hf
      refine lv_iconst (v := (0 : Int32)) hx hb dX9_mint_59 (by decide) ?_
      refine W.widen (k := 0) (n := 0) (Nat.le_of_ble_eq_true rfl) (Nat.le_of_ble_eq_true rfl) ?_
      exact x_iret hx hb hr rfl hlocks B hf dX9_mint_60
  unfold f_X9_mint at hf
  refine lv_aload_n hx hb dX9_mint_0 rfl (lv_at hl 0 rfl) ?_
  refine lv_iload_n hx hb dX9_mint_1 rfl (lv_at hl 1 rfl) ?_
  obtain ⟨r2, σ3, hu1, hf⟩ := zb_some hf
  refine x_i B (fun nb a g hs Bz => va_runS (As := [.int a1]) (rest := [.ref (ad 65)]) ⟨hx, hb, hml, hown, hts⟩ (c_X9_isSubject l hu1 _ nb a g hs) (va_cwS 1 hts gX9_mint_X9_isSubject rfl rfl rfl (by decide +kernel) ⟨Nat.le_of_ble_eq_true rfl, Nat.le_of_ble_eq_true rfl⟩) (z_preS Bz) rfl rfl hl.1 rfl (lv_room (Nat.le_of_ble_eq_true rfl)) dX9_mint_2 ⟨Nat.le_of_ble_eq_true rfl, Nat.le_of_ble_eq_true rfl⟩) (fun H locs B => ?_)
  refine lv_if_eq (tgt := 15) hx hb dX9_mint_5 (by decide) (fun hc => ?_) (fun hc => ?_)
  · have hf := zif_t hc hf
    refine lv_iconst (v := (1 : Int32)) hx hb dX9_mint_15 (by decide) ?_
    refine lv_goto (tgt := 49) hx hb dX9_mint_16 (by decide) ?_
    exact L49  _ _ _ _ _ _ _ _ hf B (lv_sub hl [0, 1, 2, 3] rfl)
  · have hf := zif_f hc hf
    refine lv_iload_n hx hb dX9_mint_8 rfl (lv_at hl 2 rfl) ?_
    obtain ⟨r11, σ12, hu10, hf⟩ := zb_some hf
    refine x_i B (fun nb a g hs Bz => va_runS (As := [.int a2]) (rest := [.ref (ad 65)]) ⟨hx, hb, hml, hown, hts⟩ (c_X9_isObject l hu10 _ nb a g hs) (va_cwS 1 hts gX9_mint_X9_isObject rfl rfl rfl (by decide +kernel) ⟨Nat.le_of_ble_eq_true rfl, Nat.le_of_ble_eq_true rfl⟩) (z_preS Bz) rfl rfl hl.1 rfl (lv_room (Nat.le_of_ble_eq_true rfl)) dX9_mint_9 ⟨Nat.le_of_ble_eq_true rfl, Nat.le_of_ble_eq_true rfl⟩) (fun H locs B => ?_)
    refine lv_if_ne (tgt := 19) hx hb dX9_mint_12 (by decide) (fun hc => ?_) (fun hc => ?_)
    · have hf := zif_f hc hf
      refine lv_iload_n hx hb dX9_mint_19 rfl (lv_at hl 3 rfl) ?_
      refine lv_iconst (v := (0 : Int32)) hx hb dX9_mint_20 (by decide) ?_
      refine lv_bipush (v := (15 : Int32)) hx hb dX9_mint_21 (by decide) ?_
      obtain ⟨r14, σ15, hu13, hf⟩ := zb_some hf
      refine x_i B (fun nb a g hs Bz => va_runS (As := [.int a3, .int (0 : Int32), .int (15 : Int32)]) (rest := [.ref (ad 65)]) ⟨hx, hb, hml, hown, hts⟩ (c_X9_isIn l hu13 _ nb a g hs) (va_cwS 3 hts gX9_mint_X9_isIn rfl rfl rfl (by decide +kernel) ⟨Nat.le_of_ble_eq_true rfl, Nat.le_of_ble_eq_true rfl⟩) (z_preS Bz) rfl rfl hl.1 rfl (lv_room (Nat.le_of_ble_eq_true rfl)) dX9_mint_23 ⟨Nat.le_of_ble_eq_true rfl, Nat.le_of_ble_eq_true rfl⟩) (fun H locs B => ?_)
      refine lv_if_ne (tgt := 33) hx hb dX9_mint_26 (by decide) (fun hc => ?_) (fun hc => ?_)
      · have hf := zif_f hc hf
        refine lv_aload_n hx hb dX9_mint_33 rfl (lv_at hl 0 rfl) ?_
        refine x_getr hx hb hts hinRX9 hown B 65 0 66 (by decide) (by decide) (fun _ => rfl) rfl rfl (by decide) (by decide +kernel) rfl dX9_mint_34 ?_
        refine lv_iconst (v := (1 : Int32)) hx hb dX9_mint_37 (by decide) ?_
        obtain ⟨hg, hf⟩ := zg_some hf
        refine x_iald hx hb B 66 (by decide) (fun _ => rfl) (zin_ok hg) dX9_mint_38 ?_
        refine lv_bipush (v := (28 : Int32)) hx hb dX9_mint_39 (by decide) ?_
        refine lv_icmp_ne (tgt := 48) hx hb dX9_mint_41 (by decide) (fun hc => ?_) (fun hc => ?_)
        · have hf := zif_f hc hf
          refine lv_iconst (v := (0 : Int32)) hx hb dX9_mint_48 (by decide) ?_
          exact L49  _ _ _ _ _ _ _ _ hf B (lv_sub hl [0, 1, 2, 3] rfl)
        · have hf := zif_t hc hf
          refine lv_iconst (v := (3 : Int32)) hx hb dX9_mint_44 (by decide) ?_
          refine lv_goto (tgt := 49) hx hb dX9_mint_45 (by decide) ?_
          exact L49  _ _ _ _ _ _ _ _ hf B (lv_sub hl [0, 1, 2, 3] rfl)
      · have hf := zif_t hc hf
        refine lv_iconst (v := (2 : Int32)) hx hb dX9_mint_29 (by decide) ?_
        refine lv_goto (tgt := 49) hx hb dX9_mint_30 (by decide) ?_
        exact L49  _ _ _ _ _ _ _ _ hf B (lv_sub hl [0, 1, 2, 3] rfl)
    · have hf := zif_t hc hf
      refine lv_iconst (v := (1 : Int32)) hx hb dX9_mint_15 (by decide) ?_
      refine lv_goto (tgt := 49) hx hb dX9_mint_16 (by decide) ?_
      exact L49  _ _ _ _ _ _ _ _ hf B (lv_sub hl [0, 1, 2, 3] rfl)
theorem dX9_append_0 : decode cX9_append 0 = .ok (.iconst 0, 1) := by decide +kernel
theorem dX9_append_1 : decode cX9_append 1 = .ok (.istore_n 2, 1) := by decide +kernel
theorem dX9_append_2 : decode cX9_append 2 = .ok (.iconst 1, 1) := by decide +kernel
theorem dX9_append_3 : decode cX9_append 3 = .ok (.istore_n 3, 1) := by decide +kernel
theorem dX9_append_4 : decode cX9_append 4 = .ok (.bipush 24, 2) := by decide +kernel
theorem dX9_append_6 : decode cX9_append 6 = .ok (.istore 4, 2) := by decide +kernel
theorem dX9_append_8 : decode cX9_append 8 = .ok (.iload 4, 2) := by decide +kernel
theorem dX9_append_10 : decode cX9_append 10 = .ok (.ifCond .lt 59, 3) := by decide +kernel
theorem dX9_append_13 : decode cX9_append 13 = .ok (.iload_n 1, 1) := by decide +kernel
theorem dX9_append_14 : decode cX9_append 14 = .ok (.iload 4, 2) := by decide +kernel
theorem dX9_append_16 : decode cX9_append 16 = .ok (.iushr, 1) := by decide +kernel
theorem dX9_append_17 : decode cX9_append 17 = .ok (.sipush 255, 3) := by decide +kernel
theorem dX9_append_20 : decode cX9_append 20 = .ok (.iand, 1) := by decide +kernel
theorem dX9_append_21 : decode cX9_append 21 = .ok (.istore 5, 2) := by decide +kernel
theorem dX9_append_23 : decode cX9_append 23 = .ok (.iload_n 2, 1) := by decide +kernel
theorem dX9_append_24 : decode cX9_append 24 = .ok (.iload 5, 2) := by decide +kernel
theorem dX9_append_26 : decode cX9_append 26 = .ok (.ifCond .ne 7, 3) := by decide +kernel
theorem dX9_append_29 : decode cX9_append 29 = .ok (.iconst 0, 1) := by decide +kernel
theorem dX9_append_30 : decode cX9_append 30 = .ok (.goto 4, 3) := by decide +kernel
theorem dX9_append_33 : decode cX9_append 33 = .ok (.iconst 1, 1) := by decide +kernel
theorem dX9_append_34 : decode cX9_append 34 = .ok (.iadd, 1) := by decide +kernel
theorem dX9_append_35 : decode cX9_append 35 = .ok (.istore_n 2, 1) := by decide +kernel
theorem dX9_append_36 : decode cX9_append 36 = .ok (.iload_n 3, 1) := by decide +kernel
theorem dX9_append_37 : decode cX9_append 37 = .ok (.ifCond .eq 24, 3) := by decide +kernel
theorem dX9_append_40 : decode cX9_append 40 = .ok (.iload 5, 2) := by decide +kernel
theorem dX9_append_42 : decode cX9_append 42 = .ok (.ifCond .eq 15, 3) := by decide +kernel
theorem dX9_append_45 : decode cX9_append 45 = .ok (.iload 5, 2) := by decide +kernel
theorem dX9_append_47 : decode cX9_append 47 = .ok (.bipush 33, 2) := by decide +kernel
theorem dX9_append_49 : decode cX9_append 49 = .ok (.bipush 126, 2) := by decide +kernel
theorem dX9_append_51 : decode cX9_append 51 = .ok (.invokestatic 44, 3) := by decide +kernel
theorem dX9_append_54 : decode cX9_append 54 = .ok (.ifCond .eq 7, 3) := by decide +kernel
theorem dX9_append_57 : decode cX9_append 57 = .ok (.iconst 1, 1) := by decide +kernel
theorem dX9_append_58 : decode cX9_append 58 = .ok (.goto 4, 3) := by decide +kernel
theorem dX9_append_61 : decode cX9_append 61 = .ok (.iconst 0, 1) := by decide +kernel
theorem dX9_append_62 : decode cX9_append 62 = .ok (.istore_n 3, 1) := by decide +kernel
theorem dX9_append_63 : decode cX9_append 63 = .ok (.iinc 4 (-8), 3) := by decide +kernel
theorem dX9_append_66 : decode cX9_append 66 = .ok (.goto (-58), 3) := by decide +kernel
theorem dX9_append_69 : decode cX9_append 69 = .ok (.aload_n 0, 1) := by decide +kernel
theorem dX9_append_70 : decode cX9_append 70 = .ok (.iload_n 3, 1) := by decide +kernel
theorem dX9_append_71 : decode cX9_append 71 = .ok (.ifCond .ne 7, 3) := by decide +kernel
theorem dX9_append_74 : decode cX9_append 74 = .ok (.iconst 1, 1) := by decide +kernel
theorem dX9_append_75 : decode cX9_append 75 = .ok (.goto 19, 3) := by decide +kernel
theorem dX9_append_78 : decode cX9_append 78 = .ok (.aload_n 0, 1) := by decide +kernel
theorem dX9_append_79 : decode cX9_append 79 = .ok (.getfield 92, 3) := by decide +kernel
theorem dX9_append_82 : decode cX9_append 82 = .ok (.iload_n 2, 1) := by decide +kernel
theorem dX9_append_83 : decode cX9_append 83 = .ok (.iadd, 1) := by decide +kernel
theorem dX9_append_84 : decode cX9_append 84 = .ok (.bipush 40, 2) := by decide +kernel
theorem dX9_append_86 : decode cX9_append 86 = .ok (.if_icmp .le 7, 3) := by decide +kernel
theorem dX9_append_89 : decode cX9_append 89 = .ok (.iconst 2, 1) := by decide +kernel
theorem dX9_append_90 : decode cX9_append 90 = .ok (.goto 4, 3) := by decide +kernel
theorem dX9_append_93 : decode cX9_append 93 = .ok (.iconst 0, 1) := by decide +kernel
theorem dX9_append_94 : decode cX9_append 94 = .ok (.putfield 41, 3) := by decide +kernel
theorem dX9_append_97 : decode cX9_append 97 = .ok (.aload_n 0, 1) := by decide +kernel
theorem dX9_append_98 : decode cX9_append 98 = .ok (.getfield 41, 3) := by decide +kernel
theorem dX9_append_101 : decode cX9_append 101 = .ok (.ifCond .eq 5, 3) := by decide +kernel
theorem dX9_append_104 : decode cX9_append 104 = .ok (.iconst 0, 1) := by decide +kernel
theorem dX9_append_105 : decode cX9_append 105 = .ok (.ireturn, 1) := by decide +kernel
theorem dX9_append_106 : decode cX9_append 106 = .ok (.bipush 24, 2) := by decide +kernel
theorem dX9_append_108 : decode cX9_append 108 = .ok (.istore 4, 2) := by decide +kernel
theorem dX9_append_110 : decode cX9_append 110 = .ok (.iload 4, 2) := by decide +kernel
theorem dX9_append_112 : decode cX9_append 112 = .ok (.ifCond .lt 45, 3) := by decide +kernel
theorem dX9_append_115 : decode cX9_append 115 = .ok (.iload_n 1, 1) := by decide +kernel
theorem dX9_append_116 : decode cX9_append 116 = .ok (.iload 4, 2) := by decide +kernel
theorem dX9_append_118 : decode cX9_append 118 = .ok (.iushr, 1) := by decide +kernel
theorem dX9_append_119 : decode cX9_append 119 = .ok (.sipush 255, 3) := by decide +kernel
theorem dX9_append_122 : decode cX9_append 122 = .ok (.iand, 1) := by decide +kernel
theorem dX9_append_123 : decode cX9_append 123 = .ok (.istore 5, 2) := by decide +kernel
theorem dX9_append_125 : decode cX9_append 125 = .ok (.iload 5, 2) := by decide +kernel
theorem dX9_append_127 : decode cX9_append 127 = .ok (.ifCond .eq 24, 3) := by decide +kernel
theorem dX9_append_130 : decode cX9_append 130 = .ok (.aload_n 0, 1) := by decide +kernel
theorem dX9_append_131 : decode cX9_append 131 = .ok (.getfield 16, 3) := by decide +kernel
theorem dX9_append_134 : decode cX9_append 134 = .ok (.aload_n 0, 1) := by decide +kernel
theorem dX9_append_135 : decode cX9_append 135 = .ok (.getfield 92, 3) := by decide +kernel
theorem dX9_append_138 : decode cX9_append 138 = .ok (.iload 5, 2) := by decide +kernel
theorem dX9_append_140 : decode cX9_append 140 = .ok (.iastore, 1) := by decide +kernel
theorem dX9_append_141 : decode cX9_append 141 = .ok (.aload_n 0, 1) := by decide +kernel
theorem dX9_append_142 : decode cX9_append 142 = .ok (.dup, 1) := by decide +kernel
theorem dX9_append_143 : decode cX9_append 143 = .ok (.getfield 92, 3) := by decide +kernel
theorem dX9_append_146 : decode cX9_append 146 = .ok (.iconst 1, 1) := by decide +kernel
theorem dX9_append_147 : decode cX9_append 147 = .ok (.iadd, 1) := by decide +kernel
theorem dX9_append_148 : decode cX9_append 148 = .ok (.putfield 92, 3) := by decide +kernel
theorem dX9_append_151 : decode cX9_append 151 = .ok (.iinc 4 (-8), 3) := by decide +kernel
theorem dX9_append_154 : decode cX9_append 154 = .ok (.goto (-44), 3) := by decide +kernel
theorem dX9_append_157 : decode cX9_append 157 = .ok (.aload_n 0, 1) := by decide +kernel
theorem dX9_append_158 : decode cX9_append 158 = .ok (.getfield 92, 3) := by decide +kernel
theorem dX9_append_161 : decode cX9_append 161 = .ok (.ireturn, 1) := by decide +kernel
set_option maxRecDepth 20000 in
theorem ggX9_append_X9_isIn : GoodIn wsX9_append wsX9_isIn := goodIn_r _ [7] (by decide +kernel) (by decide +kernel)
set_option maxRecDepth 20000 in
theorem gX9_append_X9_isIn : GoodIn wsX9_append (va_wsS RX9 44 yX9_isIn wsX9_isIn) := goodIn_app (goodIn_of _ (by decide +kernel)) ggX9_append_X9_isIn
def rm_X9_append : Room := { frames := 2, cells := 0, slots := 0, locals := 38 }
set_option maxHeartbeats 4000000 in
set_option maxRecDepth 100000 in
theorem c_X9_append (l : Launch) {G : zG} {ad : Nat → Nat} {σ σ' : zs} {a1 : Int32} {r : Int32} (hf : f_X9_append σ a1 = some (r, σ')) : xMi l yX9_append wsX9_append rm_X9_append G ad σ [.ref (ad 65), .int a1] r σ' := by
  intro sz nb a g hs
  refine Met.ofW (cc := cX9_append) (maxL := 6) (ret := (some .int)) (by decide) rfl ?_
  intro p e s m args below meth c s₁ B hml hv
  obtain ⟨rfl, hsz, hv⟩ := hv
  have hx := B.exec
  have hb := B.bytes
  have hr := B.returns
  have hts := atoms_spec (ws := wsX9_append) B.pre
  have hown : s.vm.findClass RX9 = some m.cls := findClass_of_methodNamed B.named
  have hlocks := B.notSynchronized
  subst hsz
  have B := xB_start hs hv
  have hinRX9 : ∀ w ∈ wsX90, w ∈ wsX9_append := by decide +kernel
  have hl := lv_entry ([.ref (ad 65), .int a1]) (n := 6) (Nat.le_of_ble_eq_true rfl)
  rw [lg_entry_eq]
  generalize (lg_sl ([.ref (ad 65), .int a1]) ++ List.replicate (6 - (lg_sl ([.ref (ad 65), .int a1])).length) Slot.unset).toArray = ls at hl ⊢
  have hl : lv_has ls 6 [(0, .ref (ad 65)), (1, .int a1)] := hl
  generalize hAe : xA ad a s.heap.size = A at B ⊢
  have L110 : ∀ (n : Nat) (σ : zs) (v1 : Int32) (v4 : Int32) (H : Heap) (locs : List Loc) (ls : Array Slot), zlp2 (f_X9_append_110) n σ v1 v4 = some (r, σ') → xB A s G ad σ H locs → lv_has ls 6 [(0, .ref (ad 65)), (1, .int v1), (4, .int v4)] → W p l e (headSpec wsX9_append rm_X9_append).room s m ([.ref (ad 65), .int a1] : List Value).toArray below meth c H locs 0 0 (MQ below (va_Qi (fun r' (u : xV) => r' = r ∧ xQ σ' u) (xPost G ad σ' A) A) ([.ref (ad 65), .int a1] : List Value).toArray s 0 0 A) (F0 m 110 ls []) := by
    intro n
    induction n with
    | zero =>
      intro σ v1 v4 H locs ls hf
      cases hf
    | succ n ih =>
      intro σ v1 v4 H locs ls hf B hl
      have hf : f_X9_append_110 (zlp2 (f_X9_append_110) n) σ v1 v4 = some (r, σ') := hf
      unfold f_X9_append_110 at hf
      refine lv_iload hx hb dX9_append_110 (lv_at hl 2 rfl) ?_
      refine lv_if_lt (tgt := 157) hx hb dX9_append_112 (by decide) (fun hc => ?_) (fun hc => ?_)
      · have hf := zif_t hc hf
        refine lv_aload_n hx hb dX9_append_157 rfl (lv_at hl 0 rfl) ?_
        refine x_geti hx hb hts hinRX9 hown B 65 5 (by decide) (fun _ => rfl) rfl rfl (by decide) (by decide +kernel) rfl dX9_append_158 ?_
        refine W.widen (k := 0) (n := 0) (Nat.le_of_ble_eq_true rfl) (Nat.le_of_ble_eq_true rfl) ?_
        exact x_iret hx hb hr rfl hlocks B hf dX9_append_161
      · have hf := zif_f hc hf
        refine lv_iload_n hx hb dX9_append_115 rfl (lv_at hl 1 rfl) ?_
        refine lv_iload hx hb dX9_append_116 (lv_at hl 2 rfl) ?_
        refine lv_iushr (v := (v1.toUInt32 >>> (v4.toUInt32 &&& Int32.toUInt32 31)).toInt32) hx hb dX9_append_118 rfl ?_
        refine lv_sipush (v := (255 : Int32)) hx hb dX9_append_119 (by decide) ?_
        refine lv_iand hx hb dX9_append_122 ?_
        refine lv_istore (lv' := [(5, .int (((v1.toUInt32 >>> (v4.toUInt32 &&& Int32.toUInt32 31)).toInt32) &&& (255 : Int32))), (0, .ref (ad 65)), (1, .int v1), (4, .int v4)]) hx hb dX9_append_123 hl (by decide) rfl (fun ls hl => ?_)
        refine lv_iload hx hb dX9_append_125 (lv_at hl 0 rfl) ?_
        refine lv_if_eq (tgt := 151) hx hb dX9_append_127 (by decide) (fun hc => ?_) (fun hc => ?_)
        · have hf := zif_t hc hf
          refine lv_iinc (v := (v4 + (-8 : Int32))) (lv' := [(4, .int (v4 + (-8 : Int32))), (5, .int (((v1.toUInt32 >>> (v4.toUInt32 &&& Int32.toUInt32 31)).toInt32) &&& (255 : Int32))), (0, .ref (ad 65)), (1, .int v1)]) hx hb dX9_append_151 hl (k := 3) rfl (zc1 (by decide)) (by decide) rfl (fun ls hl => ?_)
          refine lv_goto (tgt := 110) hx hb dX9_append_154 (by decide) ?_
          exact ih _ _ _ _ _ _ hf B (lv_sub hl [2, 3, 0] rfl)
        · have hf := zif_f hc hf
          refine lv_aload_n hx hb dX9_append_130 rfl (lv_at hl 1 rfl) ?_
          refine x_getr hx hb hts hinRX9 hown B 65 4 68 (by decide) (by decide) (fun _ => rfl) rfl rfl (by decide) (by decide +kernel) rfl dX9_append_131 ?_
          refine lv_aload_n hx hb dX9_append_134 rfl (lv_at hl 1 rfl) ?_
          refine x_geti hx hb hts hinRX9 hown B 65 5 (by decide) (fun _ => rfl) rfl rfl (by decide) (by decide +kernel) rfl dX9_append_135 ?_
          refine lv_iload hx hb dX9_append_138 (lv_at hl 0 rfl) ?_
          obtain ⟨hg, hf⟩ := zg_some hf
          refine x_iast hx hb B 68 (by decide) (by decide) (fun _ => rfl) (zin_ok hg) dX9_append_140 (fun H locs B => ?_)
          refine lv_aload_n hx hb dX9_append_141 rfl (lv_at hl 1 rfl) ?_
          refine lv_dup hx hb dX9_append_142 rfl ?_
          refine x_geti hx hb hts hinRX9 hown B 65 5 (by decide) (fun _ => rfl) rfl rfl (by decide) (by decide +kernel) rfl dX9_append_143 ?_
          refine lv_iconst (v := (1 : Int32)) hx hb dX9_append_146 (by decide) ?_
          refine lv_iadd hx hb dX9_append_147 ?_
          refine x_puti hx hb hts hinRX9 hown tyX9 tyX9_ok nmX9 B 65 5 (by decide) (by decide) (fun _ => rfl) rfl rfl (by decide) (by decide +kernel) rfl rfl rfl rfl dX9_append_148 (fun H locs B => ?_)
          refine lv_iinc (v := (v4 + (-8 : Int32))) (lv' := [(4, .int (v4 + (-8 : Int32))), (5, .int (((v1.toUInt32 >>> (v4.toUInt32 &&& Int32.toUInt32 31)).toInt32) &&& (255 : Int32))), (0, .ref (ad 65)), (1, .int v1)]) hx hb dX9_append_151 hl (k := 3) rfl (zc1 (by decide)) (by decide) rfl (fun ls hl => ?_)
          refine lv_goto (tgt := 110) hx hb dX9_append_154 (by decide) ?_
          exact ih _ _ _ _ _ _ hf B (lv_sub hl [2, 3, 0] rfl)
  have L94 : ∀ (σ : zs) (v1 : Int32) (s0 : Int32) (H : Heap) (locs : List Loc) (ls : Array Slot), f_X9_append_94 σ v1 s0 = some (r, σ') → xB A s G ad σ H locs → lv_has ls 6 [(0, .ref (ad 65)), (1, .int v1)] → W p l e (headSpec wsX9_append rm_X9_append).room s m ([.ref (ad 65), .int a1] : List Value).toArray below meth c H locs 0 0 (MQ below (va_Qi (fun r' (u : xV) => r' = r ∧ xQ σ' u) (xPost G ad σ' A) A) ([.ref (ad 65), .int a1] : List Value).toArray s 0 0 A) (F0 m 94 ls [.int s0, .ref (ad 65)]) := by
    intro σ v1 s0 H locs ls hf B hl
    unfold f_X9_append_94 at hf
    refine x_puti hx hb hts hinRX9 hown tyX9 tyX9_ok nmX9 B 65 3 (by decide) (by decide) (fun _ => rfl) rfl rfl (by decide) (by decide +kernel) rfl rfl rfl rfl dX9_append_94 (fun H locs B => ?_)
    refine lv_aload_n hx hb dX9_append_97 rfl (lv_at hl 0 rfl) ?_
    refine x_geti hx hb hts hinRX9 hown B 65 3 (by decide) (fun _ => rfl) rfl rfl (by decide) (by decide +kernel) rfl dX9_append_98 ?_
    refine lv_if_eq (tgt := 106) hx hb dX9_append_101 (by decide) (fun hc => ?_) (fun hc => ?_)
    · have hf := zif_t hc hf
      refine lv_bipush (v := (24 : Int32)) hx hb dX9_append_106 (by decide) ?_
      refine lv_istore (lv' := [(4, .int (24 : Int32)), (0, .ref (ad 65)), (1, .int v1)]) hx hb dX9_append_108 hl (by decide) rfl (fun ls hl => ?_)
      exact L110  _ _ _ _ _ _ _ hf B (lv_sub hl [1, 2, 0] rfl)
    · have hf := zif_f hc hf
      refine lv_iconst (v := (0 : Int32)) hx hb dX9_append_104 (by decide) ?_
      refine W.widen (k := 0) (n := 0) (Nat.le_of_ble_eq_true rfl) (Nat.le_of_ble_eq_true rfl) ?_
      exact x_iret hx hb hr rfl hlocks B hf dX9_append_105
  have L34 : ∀ (K8 : zs → Int32 → Int32 → Int32 → Int32 → Option (Int32 × zs)) (hK8 : ∀ (σ : zs) (v1 : Int32) (v2 : Int32) (v3 : Int32) (v4 : Int32) (H : Heap) (locs : List Loc) (ls : Array Slot), K8 σ v1 v2 v3 v4 = some (r, σ') → xB A s G ad σ H locs → lv_has ls 6 [(0, .ref (ad 65)), (1, .int v1), (2, .int v2), (3, .int v3), (4, .int v4)] → W p l e (headSpec wsX9_append rm_X9_append).room s m ([.ref (ad 65), .int a1] : List Value).toArray below meth c H locs 0 0 (MQ below (va_Qi (fun r' (u : xV) => r' = r ∧ xQ σ' u) (xPost G ad σ' A) A) ([.ref (ad 65), .int a1] : List Value).toArray s 0 0 A) (F0 m 8 ls [])) (σ : zs) (v1 : Int32) (v3 : Int32) (v4 : Int32) (v5 : Int32) (s0 : Int32) (s1 : Int32) (H : Heap) (locs : List Loc) (ls : Array Slot), f_X9_append_34 K8 σ v1 v3 v4 v5 s0 s1 = some (r, σ') → xB A s G ad σ H locs → lv_has ls 6 [(0, .ref (ad 65)), (1, .int v1), (3, .int v3), (4, .int v4), (5, .int v5)] → W p l e (headSpec wsX9_append rm_X9_append).room s m ([.ref (ad 65), .int a1] : List Value).toArray below meth c H locs 0 0 (MQ below (va_Qi (fun r' (u : xV) => r' = r ∧ xQ σ' u) (xPost G ad σ' A) A) ([.ref (ad 65), .int a1] : List Value).toArray s 0 0 A) (F0 m 34 ls [.int s0, .int s1]) := by
    intro K8 hK8 σ v1 v3 v4 v5 s0 s1 H locs ls hf B hl
    unfold f_X9_append_34 at hf
    refine lv_iadd hx hb dX9_append_34 ?_
    refine lv_istore_n (lv' := [(2, .int (s1 + s0)), (0, .ref (ad 65)), (1, .int v1), (3, .int v3), (4, .int v4), (5, .int v5)]) hx hb dX9_append_35 rfl hl (by decide) rfl (fun ls hl => ?_)
    refine lv_iload_n hx hb dX9_append_36 rfl (lv_at hl 3 rfl) ?_
    refine lv_if_eq (tgt := 61) hx hb dX9_append_37 (by decide) (fun hc => ?_) (fun hc => ?_)
    · have hf := zif_t hc hf
      refine lv_iconst (v := (0 : Int32)) hx hb dX9_append_61 (by decide) ?_
      refine lv_istore_n (lv' := [(3, .int (0 : Int32)), (2, .int (s1 + s0)), (0, .ref (ad 65)), (1, .int v1), (4, .int v4), (5, .int v5)]) hx hb dX9_append_62 rfl hl (by decide) rfl (fun ls hl => ?_)
      refine lv_iinc (v := (v4 + (-8 : Int32))) (lv' := [(4, .int (v4 + (-8 : Int32))), (3, .int (0 : Int32)), (2, .int (s1 + s0)), (0, .ref (ad 65)), (1, .int v1), (5, .int v5)]) hx hb dX9_append_63 hl (k := 4) rfl (zc1 (by decide)) (by decide) rfl (fun ls hl => ?_)
      refine lv_goto (tgt := 8) hx hb dX9_append_66 (by decide) ?_
      exact hK8 _ _ _ _ _ _ _ _ hf B (lv_sub hl [3, 4, 2, 1, 0] rfl)
    · have hf := zif_f hc hf
      refine lv_iload hx hb dX9_append_40 (lv_at hl 5 rfl) ?_
      refine lv_if_eq (tgt := 57) hx hb dX9_append_42 (by decide) (fun hc => ?_) (fun hc => ?_)
      · have hf := zif_t hc hf
        refine lv_iconst (v := (1 : Int32)) hx hb dX9_append_57 (by decide) ?_
        refine lv_goto (tgt := 62) hx hb dX9_append_58 (by decide) ?_
        refine lv_istore_n (lv' := [(3, .int (1 : Int32)), (2, .int (s1 + s0)), (0, .ref (ad 65)), (1, .int v1), (4, .int v4), (5, .int v5)]) hx hb dX9_append_62 rfl hl (by decide) rfl (fun ls hl => ?_)
        refine lv_iinc (v := (v4 + (-8 : Int32))) (lv' := [(4, .int (v4 + (-8 : Int32))), (3, .int (1 : Int32)), (2, .int (s1 + s0)), (0, .ref (ad 65)), (1, .int v1), (5, .int v5)]) hx hb dX9_append_63 hl (k := 4) rfl (zc1 (by decide)) (by decide) rfl (fun ls hl => ?_)
        refine lv_goto (tgt := 8) hx hb dX9_append_66 (by decide) ?_
        exact hK8 _ _ _ _ _ _ _ _ hf B (lv_sub hl [3, 4, 2, 1, 0] rfl)
      · have hf := zif_f hc hf
        refine lv_iload hx hb dX9_append_45 (lv_at hl 5 rfl) ?_
        refine lv_bipush (v := (33 : Int32)) hx hb dX9_append_47 (by decide) ?_
        refine lv_bipush (v := (126 : Int32)) hx hb dX9_append_49 (by decide) ?_
        obtain ⟨r2, σ3, hu1, hf⟩ := zb_some hf
        refine x_i B (fun nb a g hs Bz => va_runS (As := [.int v5, .int (33 : Int32), .int (126 : Int32)]) (rest := []) ⟨hx, hb, hml, hown, hts⟩ (c_X9_isIn l hu1 _ nb a g hs) (va_cwS 3 hts gX9_append_X9_isIn rfl rfl rfl (by decide +kernel) ⟨Nat.le_of_ble_eq_true rfl, Nat.le_of_ble_eq_true rfl⟩) (z_preS Bz) rfl rfl hl.1 rfl (lv_room (Nat.le_of_ble_eq_true rfl)) dX9_append_51 ⟨Nat.le_of_ble_eq_true rfl, Nat.le_of_ble_eq_true rfl⟩) (fun H locs B => ?_)
        refine lv_if_eq (tgt := 61) hx hb dX9_append_54 (by decide) (fun hc => ?_) (fun hc => ?_)
        · have hf := zif_t hc hf
          refine lv_iconst (v := (0 : Int32)) hx hb dX9_append_61 (by decide) ?_
          refine lv_istore_n (lv' := [(3, .int (0 : Int32)), (2, .int (s1 + s0)), (0, .ref (ad 65)), (1, .int v1), (4, .int v4), (5, .int v5)]) hx hb dX9_append_62 rfl hl (by decide) rfl (fun ls hl => ?_)
          refine lv_iinc (v := (v4 + (-8 : Int32))) (lv' := [(4, .int (v4 + (-8 : Int32))), (3, .int (0 : Int32)), (2, .int (s1 + s0)), (0, .ref (ad 65)), (1, .int v1), (5, .int v5)]) hx hb dX9_append_63 hl (k := 4) rfl (zc1 (by decide)) (by decide) rfl (fun ls hl => ?_)
          refine lv_goto (tgt := 8) hx hb dX9_append_66 (by decide) ?_
          exact hK8 _ _ _ _ _ _ _ _ hf B (lv_sub hl [3, 4, 2, 1, 0] rfl)
        · have hf := zif_f hc hf
          refine lv_iconst (v := (1 : Int32)) hx hb dX9_append_57 (by decide) ?_
          refine lv_goto (tgt := 62) hx hb dX9_append_58 (by decide) ?_
          refine lv_istore_n (lv' := [(3, .int (1 : Int32)), (2, .int (s1 + s0)), (0, .ref (ad 65)), (1, .int v1), (4, .int v4), (5, .int v5)]) hx hb dX9_append_62 rfl hl (by decide) rfl (fun ls hl => ?_)
          refine lv_iinc (v := (v4 + (-8 : Int32))) (lv' := [(4, .int (v4 + (-8 : Int32))), (3, .int (1 : Int32)), (2, .int (s1 + s0)), (0, .ref (ad 65)), (1, .int v1), (5, .int v5)]) hx hb dX9_append_63 hl (k := 4) rfl (zc1 (by decide)) (by decide) rfl (fun ls hl => ?_)
          refine lv_goto (tgt := 8) hx hb dX9_append_66 (by decide) ?_
          exact hK8 _ _ _ _ _ _ _ _ hf B (lv_sub hl [3, 4, 2, 1, 0] rfl)
  have L8 : ∀ (n : Nat) (σ : zs) (v1 : Int32) (v2 : Int32) (v3 : Int32) (v4 : Int32) (H : Heap) (locs : List Loc) (ls : Array Slot), zlp4 (f_X9_append_8) n σ v1 v2 v3 v4 = some (r, σ') → xB A s G ad σ H locs → lv_has ls 6 [(0, .ref (ad 65)), (1, .int v1), (2, .int v2), (3, .int v3), (4, .int v4)] → W p l e (headSpec wsX9_append rm_X9_append).room s m ([.ref (ad 65), .int a1] : List Value).toArray below meth c H locs 0 0 (MQ below (va_Qi (fun r' (u : xV) => r' = r ∧ xQ σ' u) (xPost G ad σ' A) A) ([.ref (ad 65), .int a1] : List Value).toArray s 0 0 A) (F0 m 8 ls []) := by
    intro n
    induction n with
    | zero =>
      intro σ v1 v2 v3 v4 H locs ls hf
      cases hf
    | succ n ih =>
      intro σ v1 v2 v3 v4 H locs ls hf B hl
      have hf : f_X9_append_8 (zlp4 (f_X9_append_8) n) σ v1 v2 v3 v4 = some (r, σ') := hf
      unfold f_X9_append_8 at hf
      refine lv_iload hx hb dX9_append_8 (lv_at hl 4 rfl) ?_
      refine lv_if_lt (tgt := 69) hx hb dX9_append_10 (by decide) (fun hc => ?_) (fun hc => ?_)
      · have hf := zif_t hc hf
        refine lv_aload_n hx hb dX9_append_69 rfl (lv_at hl 0 rfl) ?_
        refine lv_iload_n hx hb dX9_append_70 rfl (lv_at hl 3 rfl) ?_
        refine lv_if_ne (tgt := 78) hx hb dX9_append_71 (by decide) (fun hc => ?_) (fun hc => ?_)
        · have hf := zif_f hc hf
          refine lv_aload_n hx hb dX9_append_78 rfl (lv_at hl 0 rfl) ?_
          refine x_geti hx hb hts hinRX9 hown B 65 5 (by decide) (fun _ => rfl) rfl rfl (by decide) (by decide +kernel) rfl dX9_append_79 ?_
          refine lv_iload_n hx hb dX9_append_82 rfl (lv_at hl 2 rfl) ?_
          refine lv_iadd hx hb dX9_append_83 ?_
          refine lv_bipush (v := (40 : Int32)) hx hb dX9_append_84 (by decide) ?_
          refine lv_icmp_le (tgt := 93) hx hb dX9_append_86 (by decide) (fun hc => ?_) (fun hc => ?_)
          · have hf := zif_t hc hf
            refine lv_iconst (v := (0 : Int32)) hx hb dX9_append_93 (by decide) ?_
            exact L94  _ _ _ _ _ _ hf B (lv_sub hl [0, 1] rfl)
          · have hf := zif_f hc hf
            refine lv_iconst (v := (2 : Int32)) hx hb dX9_append_89 (by decide) ?_
            refine lv_goto (tgt := 94) hx hb dX9_append_90 (by decide) ?_
            exact L94  _ _ _ _ _ _ hf B (lv_sub hl [0, 1] rfl)
        · have hf := zif_t hc hf
          refine lv_iconst (v := (1 : Int32)) hx hb dX9_append_74 (by decide) ?_
          refine lv_goto (tgt := 94) hx hb dX9_append_75 (by decide) ?_
          exact L94  _ _ _ _ _ _ hf B (lv_sub hl [0, 1] rfl)
      · have hf := zif_f hc hf
        refine lv_iload_n hx hb dX9_append_13 rfl (lv_at hl 1 rfl) ?_
        refine lv_iload hx hb dX9_append_14 (lv_at hl 4 rfl) ?_
        refine lv_iushr (v := (v1.toUInt32 >>> (v4.toUInt32 &&& Int32.toUInt32 31)).toInt32) hx hb dX9_append_16 rfl ?_
        refine lv_sipush (v := (255 : Int32)) hx hb dX9_append_17 (by decide) ?_
        refine lv_iand hx hb dX9_append_20 ?_
        refine lv_istore (lv' := [(5, .int (((v1.toUInt32 >>> (v4.toUInt32 &&& Int32.toUInt32 31)).toInt32) &&& (255 : Int32))), (0, .ref (ad 65)), (1, .int v1), (2, .int v2), (3, .int v3), (4, .int v4)]) hx hb dX9_append_21 hl (by decide) rfl (fun ls hl => ?_)
        refine lv_iload_n hx hb dX9_append_23 rfl (lv_at hl 3 rfl) ?_
        refine lv_iload hx hb dX9_append_24 (lv_at hl 0 rfl) ?_
        refine lv_if_ne (tgt := 33) hx hb dX9_append_26 (by decide) (fun hc => ?_) (fun hc => ?_)
        · have hf := zif_f hc hf
          refine lv_iconst (v := (1 : Int32)) hx hb dX9_append_33 (by decide) ?_
          exact L34 _ ih  _ _ _ _ _ _ _ _ _ _ hf B (lv_sub hl [1, 2, 4, 5, 0] rfl)
        · have hf := zif_t hc hf
          refine lv_iconst (v := (0 : Int32)) hx hb dX9_append_29 (by decide) ?_
          refine lv_goto (tgt := 34) hx hb dX9_append_30 (by decide) ?_
          exact L34 _ ih  _ _ _ _ _ _ _ _ _ _ hf B (lv_sub hl [1, 2, 4, 5, 0] rfl)
  unfold f_X9_append at hf
  refine lv_iconst (v := (0 : Int32)) hx hb dX9_append_0 (by decide) ?_
  refine lv_istore_n (lv' := [(2, .int (0 : Int32)), (0, .ref (ad 65)), (1, .int a1)]) hx hb dX9_append_1 rfl hl (by decide) rfl (fun ls hl => ?_)
  refine lv_iconst (v := (1 : Int32)) hx hb dX9_append_2 (by decide) ?_
  refine lv_istore_n (lv' := [(3, .int (1 : Int32)), (2, .int (0 : Int32)), (0, .ref (ad 65)), (1, .int a1)]) hx hb dX9_append_3 rfl hl (by decide) rfl (fun ls hl => ?_)
  refine lv_bipush (v := (24 : Int32)) hx hb dX9_append_4 (by decide) ?_
  refine lv_istore (lv' := [(4, .int (24 : Int32)), (3, .int (1 : Int32)), (2, .int (0 : Int32)), (0, .ref (ad 65)), (1, .int a1)]) hx hb dX9_append_6 hl (by decide) rfl (fun ls hl => ?_)
  exact L8  _ _ _ _ _ _ _ _ _ hf B (lv_sub hl [3, 4, 2, 1, 0] rfl)
theorem dX9_here_0 : decode cX9_here 0 = .ok (.aload_n 0, 1) := by decide +kernel
theorem dX9_here_1 : decode cX9_here 1 = .ok (.getfield 95, 3) := by decide +kernel
theorem dX9_here_4 : decode cX9_here 4 = .ok (.aload_n 0, 1) := by decide +kernel
theorem dX9_here_5 : decode cX9_here 5 = .ok (.getfield 92, 3) := by decide +kernel
theorem dX9_here_8 : decode cX9_here 8 = .ok (.if_icmp .ge 15, 3) := by decide +kernel
theorem dX9_here_11 : decode cX9_here 11 = .ok (.aload_n 0, 1) := by decide +kernel
theorem dX9_here_12 : decode cX9_here 12 = .ok (.getfield 16, 3) := by decide +kernel
theorem dX9_here_15 : decode cX9_here 15 = .ok (.aload_n 0, 1) := by decide +kernel
theorem dX9_here_16 : decode cX9_here 16 = .ok (.getfield 95, 3) := by decide +kernel
theorem dX9_here_19 : decode cX9_here 19 = .ok (.iaload, 1) := by decide +kernel
theorem dX9_here_20 : decode cX9_here 20 = .ok (.goto 4, 3) := by decide +kernel
theorem dX9_here_23 : decode cX9_here 23 = .ok (.iconst (-1), 1) := by decide +kernel
theorem dX9_here_24 : decode cX9_here 24 = .ok (.ireturn, 1) := by decide +kernel
def rm_X9_here : Room := { frames := 1, cells := 0, slots := 0, locals := 16 }
set_option maxHeartbeats 4000000 in
set_option maxRecDepth 100000 in
theorem c_X9_here (l : Launch) {G : zG} {ad : Nat → Nat} {σ σ' : zs} {r : Int32} (hf : f_X9_here σ  = some (r, σ')) : xMi l yX9_here wsX9_here rm_X9_here G ad σ [.ref (ad 65)] r σ' := by
  intro sz nb a g hs
  refine Met.ofW (cc := cX9_here) (maxL := 1) (ret := (some .int)) (by decide) rfl ?_
  intro p e s m args below meth c s₁ B hml hv
  obtain ⟨rfl, hsz, hv⟩ := hv
  have hx := B.exec
  have hb := B.bytes
  have hr := B.returns
  have hts := atoms_spec (ws := wsX9_here) B.pre
  have hown : s.vm.findClass RX9 = some m.cls := findClass_of_methodNamed B.named
  have hlocks := B.notSynchronized
  subst hsz
  have B := xB_start hs hv
  have hinRX9 : ∀ w ∈ wsX90, w ∈ wsX9_here := by decide +kernel
  have hl := lv_entry ([.ref (ad 65)]) (n := 1) (Nat.le_of_ble_eq_true rfl)
  rw [lg_entry_eq]
  generalize (lg_sl ([.ref (ad 65)]) ++ List.replicate (1 - (lg_sl ([.ref (ad 65)])).length) Slot.unset).toArray = ls at hl ⊢
  have hl : lv_has ls 1 [(0, .ref (ad 65))] := hl
  generalize hAe : xA ad a s.heap.size = A at B ⊢
  unfold f_X9_here at hf
  refine lv_aload_n hx hb dX9_here_0 rfl (lv_at hl 0 rfl) ?_
  refine x_geti hx hb hts hinRX9 hown B 65 11 (by decide) (fun _ => rfl) rfl rfl (by decide) (by decide +kernel) rfl dX9_here_1 ?_
  refine lv_aload_n hx hb dX9_here_4 rfl (lv_at hl 0 rfl) ?_
  refine x_geti hx hb hts hinRX9 hown B 65 5 (by decide) (fun _ => rfl) rfl rfl (by decide) (by decide +kernel) rfl dX9_here_5 ?_
  refine lv_icmp_ge (tgt := 23) hx hb dX9_here_8 (by decide) (fun hc => ?_) (fun hc => ?_)
  · have hf := zif_t hc hf
    refine lv_iconst (v := (-1 : Int32)) hx hb dX9_here_23 (by decide) ?_
    refine W.widen (k := 0) (n := 0) (Nat.le_of_ble_eq_true rfl) (Nat.le_of_ble_eq_true rfl) ?_
    exact x_iret hx hb hr rfl hlocks B hf dX9_here_24
  · have hf := zif_f hc hf
    refine lv_aload_n hx hb dX9_here_11 rfl (lv_at hl 0 rfl) ?_
    refine x_getr hx hb hts hinRX9 hown B 65 4 68 (by decide) (by decide) (fun _ => rfl) rfl rfl (by decide) (by decide +kernel) rfl dX9_here_12 ?_
    refine lv_aload_n hx hb dX9_here_15 rfl (lv_at hl 0 rfl) ?_
    refine x_geti hx hb hts hinRX9 hown B 65 11 (by decide) (fun _ => rfl) rfl rfl (by decide) (by decide +kernel) rfl dX9_here_16 ?_
    obtain ⟨hg, hf⟩ := zg_some hf
    refine x_iald hx hb B 68 (by decide) (fun _ => rfl) (zin_ok hg) dX9_here_19 ?_
    refine lv_goto (tgt := 24) hx hb dX9_here_20 (by decide) ?_
    refine W.widen (k := 0) (n := 0) (Nat.le_of_ble_eq_true rfl) (Nat.le_of_ble_eq_true rfl) ?_
    exact x_iret hx hb hr rfl hlocks B hf dX9_here_24
theorem dX9_takesNumber_0 : decode cX9_takesNumber 0 = .ok (.aload_n 0, 1) := by decide +kernel
theorem dX9_takesNumber_1 : decode cX9_takesNumber 1 = .ok (.invokevirtual 98, 3) := by decide +kernel
theorem dX9_takesNumber_4 : decode cX9_takesNumber 4 = .ok (.bipush 48, 2) := by decide +kernel
theorem dX9_takesNumber_6 : decode cX9_takesNumber 6 = .ok (.bipush 57, 2) := by decide +kernel
theorem dX9_takesNumber_8 : decode cX9_takesNumber 8 = .ok (.invokestatic 44, 3) := by decide +kernel
theorem dX9_takesNumber_11 : decode cX9_takesNumber 11 = .ok (.ifCond .ne 5, 3) := by decide +kernel
theorem dX9_takesNumber_14 : decode cX9_takesNumber 14 = .ok (.iconst 0, 1) := by decide +kernel
theorem dX9_takesNumber_15 : decode cX9_takesNumber 15 = .ok (.ireturn, 1) := by decide +kernel
theorem dX9_takesNumber_16 : decode cX9_takesNumber 16 = .ok (.aload_n 0, 1) := by decide +kernel
theorem dX9_takesNumber_17 : decode cX9_takesNumber 17 = .ok (.getfield 95, 3) := by decide +kernel
theorem dX9_takesNumber_20 : decode cX9_takesNumber 20 = .ok (.istore_n 3, 1) := by decide +kernel
theorem dX9_takesNumber_21 : decode cX9_takesNumber 21 = .ok (.aload_n 0, 1) := by decide +kernel
theorem dX9_takesNumber_22 : decode cX9_takesNumber 22 = .ok (.aload_n 0, 1) := by decide +kernel
theorem dX9_takesNumber_23 : decode cX9_takesNumber 23 = .ok (.invokevirtual 98, 3) := by decide +kernel
theorem dX9_takesNumber_26 : decode cX9_takesNumber 26 = .ok (.bipush 48, 2) := by decide +kernel
theorem dX9_takesNumber_28 : decode cX9_takesNumber 28 = .ok (.isub, 1) := by decide +kernel
theorem dX9_takesNumber_29 : decode cX9_takesNumber 29 = .ok (.putfield 102, 3) := by decide +kernel
theorem dX9_takesNumber_32 : decode cX9_takesNumber 32 = .ok (.aload_n 0, 1) := by decide +kernel
theorem dX9_takesNumber_33 : decode cX9_takesNumber 33 = .ok (.dup, 1) := by decide +kernel
theorem dX9_takesNumber_34 : decode cX9_takesNumber 34 = .ok (.getfield 95, 3) := by decide +kernel
theorem dX9_takesNumber_37 : decode cX9_takesNumber 37 = .ok (.iconst 1, 1) := by decide +kernel
theorem dX9_takesNumber_38 : decode cX9_takesNumber 38 = .ok (.iadd, 1) := by decide +kernel
theorem dX9_takesNumber_39 : decode cX9_takesNumber 39 = .ok (.putfield 95, 3) := by decide +kernel
theorem dX9_takesNumber_42 : decode cX9_takesNumber 42 = .ok (.iconst 1, 1) := by decide +kernel
theorem dX9_takesNumber_43 : decode cX9_takesNumber 43 = .ok (.istore 4, 2) := by decide +kernel
theorem dX9_takesNumber_45 : decode cX9_takesNumber 45 = .ok (.iload 4, 2) := by decide +kernel
theorem dX9_takesNumber_47 : decode cX9_takesNumber 47 = .ok (.iconst 3, 1) := by decide +kernel
theorem dX9_takesNumber_48 : decode cX9_takesNumber 48 = .ok (.if_icmp .ge 59, 3) := by decide +kernel
theorem dX9_takesNumber_51 : decode cX9_takesNumber 51 = .ok (.aload_n 0, 1) := by decide +kernel
theorem dX9_takesNumber_52 : decode cX9_takesNumber 52 = .ok (.getfield 102, 3) := by decide +kernel
theorem dX9_takesNumber_55 : decode cX9_takesNumber 55 = .ok (.ifCond .le 52, 3) := by decide +kernel
theorem dX9_takesNumber_58 : decode cX9_takesNumber 58 = .ok (.aload_n 0, 1) := by decide +kernel
theorem dX9_takesNumber_59 : decode cX9_takesNumber 59 = .ok (.invokevirtual 98, 3) := by decide +kernel
theorem dX9_takesNumber_62 : decode cX9_takesNumber 62 = .ok (.bipush 48, 2) := by decide +kernel
theorem dX9_takesNumber_64 : decode cX9_takesNumber 64 = .ok (.bipush 57, 2) := by decide +kernel
theorem dX9_takesNumber_66 : decode cX9_takesNumber 66 = .ok (.invokestatic 44, 3) := by decide +kernel
theorem dX9_takesNumber_69 : decode cX9_takesNumber 69 = .ok (.ifCond .eq 38, 3) := by decide +kernel
theorem dX9_takesNumber_72 : decode cX9_takesNumber 72 = .ok (.aload_n 0, 1) := by decide +kernel
theorem dX9_takesNumber_73 : decode cX9_takesNumber 73 = .ok (.bipush 10, 2) := by decide +kernel
theorem dX9_takesNumber_75 : decode cX9_takesNumber 75 = .ok (.aload_n 0, 1) := by decide +kernel
theorem dX9_takesNumber_76 : decode cX9_takesNumber 76 = .ok (.getfield 102, 3) := by decide +kernel
theorem dX9_takesNumber_79 : decode cX9_takesNumber 79 = .ok (.imul, 1) := by decide +kernel
theorem dX9_takesNumber_80 : decode cX9_takesNumber 80 = .ok (.aload_n 0, 1) := by decide +kernel
theorem dX9_takesNumber_81 : decode cX9_takesNumber 81 = .ok (.invokevirtual 98, 3) := by decide +kernel
theorem dX9_takesNumber_84 : decode cX9_takesNumber 84 = .ok (.iadd, 1) := by decide +kernel
theorem dX9_takesNumber_85 : decode cX9_takesNumber 85 = .ok (.bipush 48, 2) := by decide +kernel
theorem dX9_takesNumber_87 : decode cX9_takesNumber 87 = .ok (.isub, 1) := by decide +kernel
theorem dX9_takesNumber_88 : decode cX9_takesNumber 88 = .ok (.putfield 102, 3) := by decide +kernel
theorem dX9_takesNumber_91 : decode cX9_takesNumber 91 = .ok (.aload_n 0, 1) := by decide +kernel
theorem dX9_takesNumber_92 : decode cX9_takesNumber 92 = .ok (.dup, 1) := by decide +kernel
theorem dX9_takesNumber_93 : decode cX9_takesNumber 93 = .ok (.getfield 95, 3) := by decide +kernel
theorem dX9_takesNumber_96 : decode cX9_takesNumber 96 = .ok (.iconst 1, 1) := by decide +kernel
theorem dX9_takesNumber_97 : decode cX9_takesNumber 97 = .ok (.iadd, 1) := by decide +kernel
theorem dX9_takesNumber_98 : decode cX9_takesNumber 98 = .ok (.putfield 95, 3) := by decide +kernel
theorem dX9_takesNumber_101 : decode cX9_takesNumber 101 = .ok (.iinc 4 1, 3) := by decide +kernel
theorem dX9_takesNumber_104 : decode cX9_takesNumber 104 = .ok (.goto (-59), 3) := by decide +kernel
theorem dX9_takesNumber_107 : decode cX9_takesNumber 107 = .ok (.aload_n 0, 1) := by decide +kernel
theorem dX9_takesNumber_108 : decode cX9_takesNumber 108 = .ok (.getfield 102, 3) := by decide +kernel
theorem dX9_takesNumber_111 : decode cX9_takesNumber 111 = .ok (.iload_n 1, 1) := by decide +kernel
theorem dX9_takesNumber_112 : decode cX9_takesNumber 112 = .ok (.iload_n 2, 1) := by decide +kernel
theorem dX9_takesNumber_113 : decode cX9_takesNumber 113 = .ok (.invokestatic 44, 3) := by decide +kernel
theorem dX9_takesNumber_116 : decode cX9_takesNumber 116 = .ok (.istore 4, 2) := by decide +kernel
theorem dX9_takesNumber_118 : decode cX9_takesNumber 118 = .ok (.aload_n 0, 1) := by decide +kernel
theorem dX9_takesNumber_119 : decode cX9_takesNumber 119 = .ok (.iload 4, 2) := by decide +kernel
theorem dX9_takesNumber_121 : decode cX9_takesNumber 121 = .ok (.ifCond .eq 10, 3) := by decide +kernel
theorem dX9_takesNumber_124 : decode cX9_takesNumber 124 = .ok (.aload_n 0, 1) := by decide +kernel
theorem dX9_takesNumber_125 : decode cX9_takesNumber 125 = .ok (.getfield 95, 3) := by decide +kernel
theorem dX9_takesNumber_128 : decode cX9_takesNumber 128 = .ok (.goto 4, 3) := by decide +kernel
theorem dX9_takesNumber_131 : decode cX9_takesNumber 131 = .ok (.iload_n 3, 1) := by decide +kernel
theorem dX9_takesNumber_132 : decode cX9_takesNumber 132 = .ok (.putfield 95, 3) := by decide +kernel
theorem dX9_takesNumber_135 : decode cX9_takesNumber 135 = .ok (.iload 4, 2) := by decide +kernel
theorem dX9_takesNumber_137 : decode cX9_takesNumber 137 = .ok (.ireturn, 1) := by decide +kernel
set_option maxRecDepth 20000 in
theorem ggX9_takesNumber_X9_here : GoodIn wsX9_takesNumber wsX9_here := goodIn_ca (goodIn_r _ [7, 1, 8, 9, 13, 14, 15, 16, 17, 18, 19, 20, 21, 22, 23, 24, 25, 26, 27, 28, 29, 30, 31, 32] (by decide +kernel) (by decide +kernel)) (goodIn_sub (fun _ h => List.mem_cons_of_mem _ (List.mem_append_right _ h)) (by decide +kernel))
set_option maxRecDepth 20000 in
theorem gX9_takesNumber_X9_here : GoodIn wsX9_takesNumber (wsV RX9 98 RX9 yX9_here wsX9_here) := goodIn_app (goodIn_of _ (by decide +kernel)) ggX9_takesNumber_X9_here
set_option maxRecDepth 20000 in
theorem ggX9_takesNumber_X9_isIn : GoodIn wsX9_takesNumber wsX9_isIn := goodIn_r _ [12] (by decide +kernel) (by decide +kernel)
set_option maxRecDepth 20000 in
theorem gX9_takesNumber_X9_isIn : GoodIn wsX9_takesNumber (va_wsS RX9 44 yX9_isIn wsX9_isIn) := goodIn_app (goodIn_of _ (by decide +kernel)) ggX9_takesNumber_X9_isIn
def rm_X9_takesNumber : Room := { frames := 2, cells := 0, slots := 0, locals := 38 }
set_option maxHeartbeats 4000000 in
set_option maxRecDepth 100000 in
theorem c_X9_takesNumber (l : Launch) {G : zG} {ad : Nat → Nat} {σ σ' : zs} {a1 a2 : Int32} {r : Int32} (hf : f_X9_takesNumber σ a1 a2 = some (r, σ')) : xMi l yX9_takesNumber wsX9_takesNumber rm_X9_takesNumber G ad σ [.ref (ad 65), .int a1, .int a2] r σ' := by
  intro sz nb a g hs
  refine Met.ofW (cc := cX9_takesNumber) (maxL := 5) (ret := (some .boolean)) (by decide) rfl ?_
  intro p e s m args below meth c s₁ B hml hv
  obtain ⟨rfl, hsz, hv⟩ := hv
  have hx := B.exec
  have hb := B.bytes
  have hr := B.returns
  have hts := atoms_spec (ws := wsX9_takesNumber) B.pre
  have hown : s.vm.findClass RX9 = some m.cls := findClass_of_methodNamed B.named
  have hlocks := B.notSynchronized
  subst hsz
  have B := xB_start hs hv
  have hinRX9 : ∀ w ∈ wsX90, w ∈ wsX9_takesNumber := by decide +kernel
  have hl := lv_entry ([.ref (ad 65), .int a1, .int a2]) (n := 5) (Nat.le_of_ble_eq_true rfl)
  rw [lg_entry_eq]
  generalize (lg_sl ([.ref (ad 65), .int a1, .int a2]) ++ List.replicate (5 - (lg_sl ([.ref (ad 65), .int a1, .int a2])).length) Slot.unset).toArray = ls at hl ⊢
  have hl : lv_has ls 5 [(0, .ref (ad 65)), (1, .int a1), (2, .int a2)] := hl
  generalize hAe : xA ad a s.heap.size = A at B ⊢
  have L107 : ∀ (σ : zs) (v1 : Int32) (v2 : Int32) (v3 : Int32) (H : Heap) (locs : List Loc) (ls : Array Slot), f_X9_takesNumber_107 σ v1 v2 v3 = some (r, σ') → xB A s G ad σ H locs → lv_has ls 5 [(0, .ref (ad 65)), (1, .int v1), (2, .int v2), (3, .int v3)] → W p l e (headSpec wsX9_takesNumber rm_X9_takesNumber).room s m ([.ref (ad 65), .int a1, .int a2] : List Value).toArray below meth c H locs 0 0 (MQ below (va_Qi (fun r' (u : xV) => r' = r ∧ xQ σ' u) (xPost G ad σ' A) A) ([.ref (ad 65), .int a1, .int a2] : List Value).toArray s 0 0 A) (F0 m 107 ls []) := by
    intro σ v1 v2 v3 H locs ls hf B hl
    unfold f_X9_takesNumber_107 at hf
    refine lv_aload_n hx hb dX9_takesNumber_107 rfl (lv_at hl 0 rfl) ?_
    refine x_geti hx hb hts hinRX9 hown B 65 12 (by decide) (fun _ => rfl) rfl rfl (by decide) (by decide +kernel) rfl dX9_takesNumber_108 ?_
    refine lv_iload_n hx hb dX9_takesNumber_111 rfl (lv_at hl 1 rfl) ?_
    refine lv_iload_n hx hb dX9_takesNumber_112 rfl (lv_at hl 2 rfl) ?_
    obtain ⟨r11, σ12, hu10, hf⟩ := zb_some hf
    refine x_i B (fun nb a g hs Bz => va_runS (As := [.int (σ 65 12), .int v1, .int v2]) (rest := []) ⟨hx, hb, hml, hown, hts⟩ (c_X9_isIn l hu10 _ nb a g hs) (va_cwS 3 hts gX9_takesNumber_X9_isIn rfl rfl rfl (by decide +kernel) ⟨Nat.le_of_ble_eq_true rfl, Nat.le_of_ble_eq_true rfl⟩) (z_preS Bz) rfl rfl hl.1 rfl (lv_room (Nat.le_of_ble_eq_true rfl)) dX9_takesNumber_113 ⟨Nat.le_of_ble_eq_true rfl, Nat.le_of_ble_eq_true rfl⟩) (fun H locs B => ?_)
    refine lv_istore (lv' := [(4, .int r11), (0, .ref (ad 65)), (1, .int v1), (2, .int v2), (3, .int v3)]) hx hb dX9_takesNumber_116 hl (by decide) rfl (fun ls hl => ?_)
    refine lv_aload_n hx hb dX9_takesNumber_118 rfl (lv_at hl 1 rfl) ?_
    refine lv_iload hx hb dX9_takesNumber_119 (lv_at hl 0 rfl) ?_
    refine lv_if_eq (tgt := 131) hx hb dX9_takesNumber_121 (by decide) (fun hc => ?_) (fun hc => ?_)
    · have hf := zif_t hc hf
      refine lv_iload_n hx hb dX9_takesNumber_131 rfl (lv_at hl 4 rfl) ?_
      refine x_puti hx hb hts hinRX9 hown tyX9 tyX9_ok nmX9 B 65 11 (by decide) (by decide) (fun _ => rfl) rfl rfl (by decide) (by decide +kernel) rfl rfl rfl rfl dX9_takesNumber_132 (fun H locs B => ?_)
      refine lv_iload hx hb dX9_takesNumber_135 (lv_at hl 0 rfl) ?_
      obtain ⟨hg, hf⟩ := zg_some hf
      refine W.widen (k := 0) (n := 0) (Nat.le_of_ble_eq_true rfl) (Nat.le_of_ble_eq_true rfl) ?_
      exact x_iret hx hb hr (znz hg) hlocks B hf dX9_takesNumber_137
    · have hf := zif_f hc hf
      refine lv_aload_n hx hb dX9_takesNumber_124 rfl (lv_at hl 1 rfl) ?_
      refine x_geti hx hb hts hinRX9 hown B 65 11 (by decide) (fun _ => rfl) rfl rfl (by decide) (by decide +kernel) rfl dX9_takesNumber_125 ?_
      refine lv_goto (tgt := 132) hx hb dX9_takesNumber_128 (by decide) ?_
      refine x_puti hx hb hts hinRX9 hown tyX9 tyX9_ok nmX9 B 65 11 (by decide) (by decide) (fun _ => rfl) rfl rfl (by decide) (by decide +kernel) rfl rfl rfl rfl dX9_takesNumber_132 (fun H locs B => ?_)
      refine lv_iload hx hb dX9_takesNumber_135 (lv_at hl 0 rfl) ?_
      obtain ⟨hg, hf⟩ := zg_some hf
      refine W.widen (k := 0) (n := 0) (Nat.le_of_ble_eq_true rfl) (Nat.le_of_ble_eq_true rfl) ?_
      exact x_iret hx hb hr (znz hg) hlocks B hf dX9_takesNumber_137
  have L45 : ∀ (n : Nat) (σ : zs) (v1 : Int32) (v2 : Int32) (v3 : Int32) (v4 : Int32) (H : Heap) (locs : List Loc) (ls : Array Slot), zlp4 (f_X9_takesNumber_45) n σ v1 v2 v3 v4 = some (r, σ') → xB A s G ad σ H locs → lv_has ls 5 [(0, .ref (ad 65)), (1, .int v1), (2, .int v2), (3, .int v3), (4, .int v4)] → W p l e (headSpec wsX9_takesNumber rm_X9_takesNumber).room s m ([.ref (ad 65), .int a1, .int a2] : List Value).toArray below meth c H locs 0 0 (MQ below (va_Qi (fun r' (u : xV) => r' = r ∧ xQ σ' u) (xPost G ad σ' A) A) ([.ref (ad 65), .int a1, .int a2] : List Value).toArray s 0 0 A) (F0 m 45 ls []) := by
    intro n
    induction n with
    | zero =>
      intro σ v1 v2 v3 v4 H locs ls hf
      cases hf
    | succ n ih =>
      intro σ v1 v2 v3 v4 H locs ls hf B hl
      have hf : f_X9_takesNumber_45 (zlp4 (f_X9_takesNumber_45) n) σ v1 v2 v3 v4 = some (r, σ') := hf
      unfold f_X9_takesNumber_45 at hf
      refine lv_iload hx hb dX9_takesNumber_45 (lv_at hl 4 rfl) ?_
      refine lv_iconst (v := (3 : Int32)) hx hb dX9_takesNumber_47 (by decide) ?_
      refine lv_icmp_ge (tgt := 107) hx hb dX9_takesNumber_48 (by decide) (fun hc => ?_) (fun hc => ?_)
      · have hf := zif_t hc hf
        exact L107  _ _ _ _ _ _ _ hf B (lv_sub hl [0, 1, 2, 3] rfl)
      · have hf := zif_f hc hf
        refine lv_aload_n hx hb dX9_takesNumber_51 rfl (lv_at hl 0 rfl) ?_
        refine x_geti hx hb hts hinRX9 hown B 65 12 (by decide) (fun _ => rfl) rfl rfl (by decide) (by decide +kernel) rfl dX9_takesNumber_52 ?_
        refine lv_if_le (tgt := 107) hx hb dX9_takesNumber_55 (by decide) (fun hc => ?_) (fun hc => ?_)
        · have hf := zif_t hc hf
          exact L107  _ _ _ _ _ _ _ hf B (lv_sub hl [0, 1, 2, 3] rfl)
        · have hf := zif_f hc hf
          refine lv_aload_n hx hb dX9_takesNumber_58 rfl (lv_at hl 0 rfl) ?_
          obtain ⟨r14, σ15, hu13, hf⟩ := zb_some hf
          refine x_i B (fun nb a g hs Bz => va_runV (As := []) (rest := []) ⟨hx, hb, hml, hown, hts⟩ (c_X9_here l hu13 _ nb a g hs) (cwV 0 hts gX9_takesNumber_X9_here rfl rfl rfl (by decide +kernel) ⟨Nat.le_of_ble_eq_true rfl, Nat.le_of_ble_eq_true rfl⟩) (x_preV Bz (by decide) (fun _ => rfl) rfl) rfl rfl hl.1 rfl (lv_room (Nat.le_of_ble_eq_true rfl)) dX9_takesNumber_59 ⟨Nat.le_of_ble_eq_true rfl, Nat.le_of_ble_eq_true rfl⟩) (fun H locs B => ?_)
          refine lv_bipush (v := (48 : Int32)) hx hb dX9_takesNumber_62 (by decide) ?_
          refine lv_bipush (v := (57 : Int32)) hx hb dX9_takesNumber_64 (by decide) ?_
          obtain ⟨r17, σ18, hu16, hf⟩ := zb_some hf
          refine x_i B (fun nb a g hs Bz => va_runS (As := [.int r14, .int (48 : Int32), .int (57 : Int32)]) (rest := []) ⟨hx, hb, hml, hown, hts⟩ (c_X9_isIn l hu16 _ nb a g hs) (va_cwS 3 hts gX9_takesNumber_X9_isIn rfl rfl rfl (by decide +kernel) ⟨Nat.le_of_ble_eq_true rfl, Nat.le_of_ble_eq_true rfl⟩) (z_preS Bz) rfl rfl hl.1 rfl (lv_room (Nat.le_of_ble_eq_true rfl)) dX9_takesNumber_66 ⟨Nat.le_of_ble_eq_true rfl, Nat.le_of_ble_eq_true rfl⟩) (fun H locs B => ?_)
          refine lv_if_eq (tgt := 107) hx hb dX9_takesNumber_69 (by decide) (fun hc => ?_) (fun hc => ?_)
          · have hf := zif_t hc hf
            exact L107  _ _ _ _ _ _ _ hf B (lv_sub hl [0, 1, 2, 3] rfl)
          · have hf := zif_f hc hf
            refine lv_aload_n hx hb dX9_takesNumber_72 rfl (lv_at hl 0 rfl) ?_
            refine lv_bipush (v := (10 : Int32)) hx hb dX9_takesNumber_73 (by decide) ?_
            refine lv_aload_n hx hb dX9_takesNumber_75 rfl (lv_at hl 0 rfl) ?_
            refine x_geti hx hb hts hinRX9 hown B 65 12 (by decide) (fun _ => rfl) rfl rfl (by decide) (by decide +kernel) rfl dX9_takesNumber_76 ?_
            refine lv_imul hx hb dX9_takesNumber_79 ?_
            refine lv_aload_n hx hb dX9_takesNumber_80 rfl (lv_at hl 0 rfl) ?_
            obtain ⟨r20, σ21, hu19, hf⟩ := zb_some hf
            refine x_i B (fun nb a g hs Bz => va_runV (As := []) (rest := [.int ((10 : Int32) * (σ18 65 12)), .ref (ad 65)]) ⟨hx, hb, hml, hown, hts⟩ (c_X9_here l hu19 _ nb a g hs) (cwV 0 hts gX9_takesNumber_X9_here rfl rfl rfl (by decide +kernel) ⟨Nat.le_of_ble_eq_true rfl, Nat.le_of_ble_eq_true rfl⟩) (x_preV Bz (by decide) (fun _ => rfl) rfl) rfl rfl hl.1 rfl (lv_room (Nat.le_of_ble_eq_true rfl)) dX9_takesNumber_81 ⟨Nat.le_of_ble_eq_true rfl, Nat.le_of_ble_eq_true rfl⟩) (fun H locs B => ?_)
            refine lv_iadd hx hb dX9_takesNumber_84 ?_
            refine lv_bipush (v := (48 : Int32)) hx hb dX9_takesNumber_85 (by decide) ?_
            refine lv_isub hx hb dX9_takesNumber_87 ?_
            refine x_puti hx hb hts hinRX9 hown tyX9 tyX9_ok nmX9 B 65 12 (by decide) (by decide) (fun _ => rfl) rfl rfl (by decide) (by decide +kernel) rfl rfl rfl rfl dX9_takesNumber_88 (fun H locs B => ?_)
            refine lv_aload_n hx hb dX9_takesNumber_91 rfl (lv_at hl 0 rfl) ?_
            refine lv_dup hx hb dX9_takesNumber_92 rfl ?_
            refine x_geti hx hb hts hinRX9 hown B 65 11 (by decide) (fun _ => rfl) rfl rfl (by decide) (by decide +kernel) rfl dX9_takesNumber_93 ?_
            refine lv_iconst (v := (1 : Int32)) hx hb dX9_takesNumber_96 (by decide) ?_
            refine lv_iadd hx hb dX9_takesNumber_97 ?_
            refine x_puti hx hb hts hinRX9 hown tyX9 tyX9_ok nmX9 B 65 11 (by decide) (by decide) (fun _ => rfl) rfl rfl (by decide) (by decide +kernel) rfl rfl rfl rfl dX9_takesNumber_98 (fun H locs B => ?_)
            refine lv_iinc (v := (v4 + (1 : Int32))) (lv' := [(4, .int (v4 + (1 : Int32))), (0, .ref (ad 65)), (1, .int v1), (2, .int v2), (3, .int v3)]) hx hb dX9_takesNumber_101 hl (k := 4) rfl (zc1 (by decide)) (by decide) rfl (fun ls hl => ?_)
            refine lv_goto (tgt := 45) hx hb dX9_takesNumber_104 (by decide) ?_
            exact ih _ _ _ _ _ _ _ _ hf B (lv_sub hl [1, 2, 3, 4, 0] rfl)
  unfold f_X9_takesNumber at hf
  refine lv_aload_n hx hb dX9_takesNumber_0 rfl (lv_at hl 0 rfl) ?_
  obtain ⟨r2, σ3, hu1, hf⟩ := zb_some hf
  refine x_i B (fun nb a g hs Bz => va_runV (As := []) (rest := []) ⟨hx, hb, hml, hown, hts⟩ (c_X9_here l hu1 _ nb a g hs) (cwV 0 hts gX9_takesNumber_X9_here rfl rfl rfl (by decide +kernel) ⟨Nat.le_of_ble_eq_true rfl, Nat.le_of_ble_eq_true rfl⟩) (x_preV Bz (by decide) (fun _ => rfl) rfl) rfl rfl hl.1 rfl (lv_room (Nat.le_of_ble_eq_true rfl)) dX9_takesNumber_1 ⟨Nat.le_of_ble_eq_true rfl, Nat.le_of_ble_eq_true rfl⟩) (fun H locs B => ?_)
  refine lv_bipush (v := (48 : Int32)) hx hb dX9_takesNumber_4 (by decide) ?_
  refine lv_bipush (v := (57 : Int32)) hx hb dX9_takesNumber_6 (by decide) ?_
  obtain ⟨r5, σ6, hu4, hf⟩ := zb_some hf
  refine x_i B (fun nb a g hs Bz => va_runS (As := [.int r2, .int (48 : Int32), .int (57 : Int32)]) (rest := []) ⟨hx, hb, hml, hown, hts⟩ (c_X9_isIn l hu4 _ nb a g hs) (va_cwS 3 hts gX9_takesNumber_X9_isIn rfl rfl rfl (by decide +kernel) ⟨Nat.le_of_ble_eq_true rfl, Nat.le_of_ble_eq_true rfl⟩) (z_preS Bz) rfl rfl hl.1 rfl (lv_room (Nat.le_of_ble_eq_true rfl)) dX9_takesNumber_8 ⟨Nat.le_of_ble_eq_true rfl, Nat.le_of_ble_eq_true rfl⟩) (fun H locs B => ?_)
  refine lv_if_ne (tgt := 16) hx hb dX9_takesNumber_11 (by decide) (fun hc => ?_) (fun hc => ?_)
  · have hf := zif_f hc hf
    refine lv_aload_n hx hb dX9_takesNumber_16 rfl (lv_at hl 0 rfl) ?_
    refine x_geti hx hb hts hinRX9 hown B 65 11 (by decide) (fun _ => rfl) rfl rfl (by decide) (by decide +kernel) rfl dX9_takesNumber_17 ?_
    refine lv_istore_n (lv' := [(3, .int (σ6 65 11)), (0, .ref (ad 65)), (1, .int a1), (2, .int a2)]) hx hb dX9_takesNumber_20 rfl hl (by decide) rfl (fun ls hl => ?_)
    refine lv_aload_n hx hb dX9_takesNumber_21 rfl (lv_at hl 1 rfl) ?_
    refine lv_aload_n hx hb dX9_takesNumber_22 rfl (lv_at hl 1 rfl) ?_
    obtain ⟨r8, σ9, hu7, hf⟩ := zb_some hf
    refine x_i B (fun nb a g hs Bz => va_runV (As := []) (rest := [.ref (ad 65)]) ⟨hx, hb, hml, hown, hts⟩ (c_X9_here l hu7 _ nb a g hs) (cwV 0 hts gX9_takesNumber_X9_here rfl rfl rfl (by decide +kernel) ⟨Nat.le_of_ble_eq_true rfl, Nat.le_of_ble_eq_true rfl⟩) (x_preV Bz (by decide) (fun _ => rfl) rfl) rfl rfl hl.1 rfl (lv_room (Nat.le_of_ble_eq_true rfl)) dX9_takesNumber_23 ⟨Nat.le_of_ble_eq_true rfl, Nat.le_of_ble_eq_true rfl⟩) (fun H locs B => ?_)
    refine lv_bipush (v := (48 : Int32)) hx hb dX9_takesNumber_26 (by decide) ?_
    refine lv_isub hx hb dX9_takesNumber_28 ?_
    refine x_puti hx hb hts hinRX9 hown tyX9 tyX9_ok nmX9 B 65 12 (by decide) (by decide) (fun _ => rfl) rfl rfl (by decide) (by decide +kernel) rfl rfl rfl rfl dX9_takesNumber_29 (fun H locs B => ?_)
    refine lv_aload_n hx hb dX9_takesNumber_32 rfl (lv_at hl 1 rfl) ?_
    refine lv_dup hx hb dX9_takesNumber_33 rfl ?_
    refine x_geti hx hb hts hinRX9 hown B 65 11 (by decide) (fun _ => rfl) rfl rfl (by decide) (by decide +kernel) rfl dX9_takesNumber_34 ?_
    refine lv_iconst (v := (1 : Int32)) hx hb dX9_takesNumber_37 (by decide) ?_
    refine lv_iadd hx hb dX9_takesNumber_38 ?_
    refine x_puti hx hb hts hinRX9 hown tyX9 tyX9_ok nmX9 B 65 11 (by decide) (by decide) (fun _ => rfl) rfl rfl (by decide) (by decide +kernel) rfl rfl rfl rfl dX9_takesNumber_39 (fun H locs B => ?_)
    refine lv_iconst (v := (1 : Int32)) hx hb dX9_takesNumber_42 (by decide) ?_
    refine lv_istore (lv' := [(4, .int (1 : Int32)), (3, .int (σ6 65 11)), (0, .ref (ad 65)), (1, .int a1), (2, .int a2)]) hx hb dX9_takesNumber_43 hl (by decide) rfl (fun ls hl => ?_)
    exact L45  _ _ _ _ _ _ _ _ _ hf B (lv_sub hl [2, 3, 4, 1, 0] rfl)
  · have hf := zif_t hc hf
    refine lv_iconst (v := (0 : Int32)) hx hb dX9_takesNumber_14 (by decide) ?_
    refine W.widen (k := 0) (n := 0) (Nat.le_of_ble_eq_true rfl) (Nat.le_of_ble_eq_true rfl) ?_
    exact x_iret hx hb hr (by decide) hlocks B hf dX9_takesNumber_15
theorem dX9_kindOf_0 : decode cX9_kindOf 0 = .ok (.iload_n 0, 1) := by decide +kernel
theorem dX9_kindOf_1 : decode cX9_kindOf 1 = .ok (.bipush 114, 2) := by decide +kernel
theorem dX9_kindOf_3 : decode cX9_kindOf 3 = .ok (.if_icmp .ne 7, 3) := by decide +kernel
theorem dX9_kindOf_6 : decode cX9_kindOf 6 = .ok (.iconst 0, 1) := by decide +kernel
theorem dX9_kindOf_7 : decode cX9_kindOf 7 = .ok (.goto 44, 3) := by decide +kernel
theorem dX9_kindOf_10 : decode cX9_kindOf 10 = .ok (.iload_n 0, 1) := by decide +kernel
theorem dX9_kindOf_11 : decode cX9_kindOf 11 = .ok (.bipush 116, 2) := by decide +kernel
theorem dX9_kindOf_13 : decode cX9_kindOf 13 = .ok (.if_icmp .ne 7, 3) := by decide +kernel
theorem dX9_kindOf_16 : decode cX9_kindOf 16 = .ok (.iconst 1, 1) := by decide +kernel
theorem dX9_kindOf_17 : decode cX9_kindOf 17 = .ok (.goto 34, 3) := by decide +kernel
theorem dX9_kindOf_20 : decode cX9_kindOf 20 = .ok (.iload_n 0, 1) := by decide +kernel
theorem dX9_kindOf_21 : decode cX9_kindOf 21 = .ok (.bipush 115, 2) := by decide +kernel
theorem dX9_kindOf_23 : decode cX9_kindOf 23 = .ok (.if_icmp .ne 7, 3) := by decide +kernel
theorem dX9_kindOf_26 : decode cX9_kindOf 26 = .ok (.iconst 2, 1) := by decide +kernel
theorem dX9_kindOf_27 : decode cX9_kindOf 27 = .ok (.goto 24, 3) := by decide +kernel
theorem dX9_kindOf_30 : decode cX9_kindOf 30 = .ok (.iload_n 0, 1) := by decide +kernel
theorem dX9_kindOf_31 : decode cX9_kindOf 31 = .ok (.bipush 110, 2) := by decide +kernel
theorem dX9_kindOf_33 : decode cX9_kindOf 33 = .ok (.if_icmp .ne 7, 3) := by decide +kernel
theorem dX9_kindOf_36 : decode cX9_kindOf 36 = .ok (.iconst 3, 1) := by decide +kernel
theorem dX9_kindOf_37 : decode cX9_kindOf 37 = .ok (.goto 14, 3) := by decide +kernel
theorem dX9_kindOf_40 : decode cX9_kindOf 40 = .ok (.iload_n 0, 1) := by decide +kernel
theorem dX9_kindOf_41 : decode cX9_kindOf 41 = .ok (.bipush 97, 2) := by decide +kernel
theorem dX9_kindOf_43 : decode cX9_kindOf 43 = .ok (.if_icmp .ne 7, 3) := by decide +kernel
theorem dX9_kindOf_46 : decode cX9_kindOf 46 = .ok (.iconst 4, 1) := by decide +kernel
theorem dX9_kindOf_47 : decode cX9_kindOf 47 = .ok (.goto 4, 3) := by decide +kernel
theorem dX9_kindOf_50 : decode cX9_kindOf 50 = .ok (.iconst (-1), 1) := by decide +kernel
theorem dX9_kindOf_51 : decode cX9_kindOf 51 = .ok (.ireturn, 1) := by decide +kernel
def rm_X9_kindOf : Room := { frames := 1, cells := 0, slots := 0, locals := 16 }
set_option maxHeartbeats 4000000 in
set_option maxRecDepth 100000 in
theorem c_X9_kindOf (l : Launch) {G : zG} {ad : Nat → Nat} {σ σ' : zs} {a0 : Int32} {r : Int32} (hf : f_X9_kindOf σ a0 = some (r, σ')) : xMi l yX9_kindOf wsX9_kindOf rm_X9_kindOf G ad σ [.int a0] r σ' := by
  intro sz nb a g hs
  refine Met.ofW (cc := cX9_kindOf) (maxL := 1) (ret := (some .int)) (by decide) rfl ?_
  intro p e s m args below meth c s₁ B hml hv
  obtain ⟨rfl, hsz, hv⟩ := hv
  have hx := B.exec
  have hb := B.bytes
  have hr := B.returns
  have hts := atoms_spec (ws := wsX9_kindOf) B.pre
  have hown : s.vm.findClass RX9 = some m.cls := findClass_of_methodNamed B.named
  have hlocks := B.notSynchronized
  subst hsz
  have B := xB_start hs hv
  have hl := lv_entry ([.int a0]) (n := 1) (Nat.le_of_ble_eq_true rfl)
  rw [lg_entry_eq]
  generalize (lg_sl ([.int a0]) ++ List.replicate (1 - (lg_sl ([.int a0])).length) Slot.unset).toArray = ls at hl ⊢
  have hl : lv_has ls 1 [(0, .int a0)] := hl
  generalize hAe : xA ad a s.heap.size = A at B ⊢
  unfold f_X9_kindOf at hf
  refine lv_iload_n hx hb dX9_kindOf_0 rfl (lv_at hl 0 rfl) ?_
  refine lv_bipush (v := (114 : Int32)) hx hb dX9_kindOf_1 (by decide) ?_
  refine lv_icmp_ne (tgt := 10) hx hb dX9_kindOf_3 (by decide) (fun hc => ?_) (fun hc => ?_)
  · have hf := zif_f hc hf
    refine lv_iload_n hx hb dX9_kindOf_10 rfl (lv_at hl 0 rfl) ?_
    refine lv_bipush (v := (116 : Int32)) hx hb dX9_kindOf_11 (by decide) ?_
    refine lv_icmp_ne (tgt := 20) hx hb dX9_kindOf_13 (by decide) (fun hc => ?_) (fun hc => ?_)
    · have hf := zif_f hc hf
      refine lv_iload_n hx hb dX9_kindOf_20 rfl (lv_at hl 0 rfl) ?_
      refine lv_bipush (v := (115 : Int32)) hx hb dX9_kindOf_21 (by decide) ?_
      refine lv_icmp_ne (tgt := 30) hx hb dX9_kindOf_23 (by decide) (fun hc => ?_) (fun hc => ?_)
      · have hf := zif_f hc hf
        refine lv_iload_n hx hb dX9_kindOf_30 rfl (lv_at hl 0 rfl) ?_
        refine lv_bipush (v := (110 : Int32)) hx hb dX9_kindOf_31 (by decide) ?_
        refine lv_icmp_ne (tgt := 40) hx hb dX9_kindOf_33 (by decide) (fun hc => ?_) (fun hc => ?_)
        · have hf := zif_f hc hf
          refine lv_iload_n hx hb dX9_kindOf_40 rfl (lv_at hl 0 rfl) ?_
          refine lv_bipush (v := (97 : Int32)) hx hb dX9_kindOf_41 (by decide) ?_
          refine lv_icmp_ne (tgt := 50) hx hb dX9_kindOf_43 (by decide) (fun hc => ?_) (fun hc => ?_)
          · have hf := zif_f hc hf
            refine lv_iconst (v := (-1 : Int32)) hx hb dX9_kindOf_50 (by decide) ?_
            refine W.widen (k := 0) (n := 0) (Nat.le_of_ble_eq_true rfl) (Nat.le_of_ble_eq_true rfl) ?_
            exact x_iret hx hb hr rfl hlocks B hf dX9_kindOf_51
          · have hf := zif_t hc hf
            refine lv_iconst (v := (4 : Int32)) hx hb dX9_kindOf_46 (by decide) ?_
            refine lv_goto (tgt := 51) hx hb dX9_kindOf_47 (by decide) ?_
            refine W.widen (k := 0) (n := 0) (Nat.le_of_ble_eq_true rfl) (Nat.le_of_ble_eq_true rfl) ?_
            exact x_iret hx hb hr rfl hlocks B hf dX9_kindOf_51
        · have hf := zif_t hc hf
          refine lv_iconst (v := (3 : Int32)) hx hb dX9_kindOf_36 (by decide) ?_
          refine lv_goto (tgt := 51) hx hb dX9_kindOf_37 (by decide) ?_
          refine W.widen (k := 0) (n := 0) (Nat.le_of_ble_eq_true rfl) (Nat.le_of_ble_eq_true rfl) ?_
          exact x_iret hx hb hr rfl hlocks B hf dX9_kindOf_51
      · have hf := zif_t hc hf
        refine lv_iconst (v := (2 : Int32)) hx hb dX9_kindOf_26 (by decide) ?_
        refine lv_goto (tgt := 51) hx hb dX9_kindOf_27 (by decide) ?_
        refine W.widen (k := 0) (n := 0) (Nat.le_of_ble_eq_true rfl) (Nat.le_of_ble_eq_true rfl) ?_
        exact x_iret hx hb hr rfl hlocks B hf dX9_kindOf_51
    · have hf := zif_t hc hf
      refine lv_iconst (v := (1 : Int32)) hx hb dX9_kindOf_16 (by decide) ?_
      refine lv_goto (tgt := 51) hx hb dX9_kindOf_17 (by decide) ?_
      refine W.widen (k := 0) (n := 0) (Nat.le_of_ble_eq_true rfl) (Nat.le_of_ble_eq_true rfl) ?_
      exact x_iret hx hb hr rfl hlocks B hf dX9_kindOf_51
  · have hf := zif_t hc hf
    refine lv_iconst (v := (0 : Int32)) hx hb dX9_kindOf_6 (by decide) ?_
    refine lv_goto (tgt := 51) hx hb dX9_kindOf_7 (by decide) ?_
    refine W.widen (k := 0) (n := 0) (Nat.le_of_ble_eq_true rfl) (Nat.le_of_ble_eq_true rfl) ?_
    exact x_iret hx hb hr rfl hlocks B hf dX9_kindOf_51
theorem dX9_takesCaveat_0 : decode cX9_takesCaveat 0 = .ok (.aload_n 0, 1) := by decide +kernel
theorem dX9_takesCaveat_1 : decode cX9_takesCaveat 1 = .ok (.invokevirtual 98, 3) := by decide +kernel
theorem dX9_takesCaveat_4 : decode cX9_takesCaveat 4 = .ok (.invokestatic 105, 3) := by decide +kernel
theorem dX9_takesCaveat_7 : decode cX9_takesCaveat 7 = .ok (.istore_n 1, 1) := by decide +kernel
theorem dX9_takesCaveat_8 : decode cX9_takesCaveat 8 = .ok (.iload_n 1, 1) := by decide +kernel
theorem dX9_takesCaveat_9 : decode cX9_takesCaveat 9 = .ok (.ifCond .ge 5, 3) := by decide +kernel
theorem dX9_takesCaveat_12 : decode cX9_takesCaveat 12 = .ok (.iconst 0, 1) := by decide +kernel
theorem dX9_takesCaveat_13 : decode cX9_takesCaveat 13 = .ok (.ireturn, 1) := by decide +kernel
theorem dX9_takesCaveat_14 : decode cX9_takesCaveat 14 = .ok (.aload_n 0, 1) := by decide +kernel
theorem dX9_takesCaveat_15 : decode cX9_takesCaveat 15 = .ok (.dup, 1) := by decide +kernel
theorem dX9_takesCaveat_16 : decode cX9_takesCaveat 16 = .ok (.getfield 95, 3) := by decide +kernel
theorem dX9_takesCaveat_19 : decode cX9_takesCaveat 19 = .ok (.iconst 1, 1) := by decide +kernel
theorem dX9_takesCaveat_20 : decode cX9_takesCaveat 20 = .ok (.iadd, 1) := by decide +kernel
theorem dX9_takesCaveat_21 : decode cX9_takesCaveat 21 = .ok (.putfield 95, 3) := by decide +kernel
theorem dX9_takesCaveat_24 : decode cX9_takesCaveat 24 = .ok (.aload_n 0, 1) := by decide +kernel
theorem dX9_takesCaveat_25 : decode cX9_takesCaveat 25 = .ok (.iconst 0, 1) := by decide +kernel
theorem dX9_takesCaveat_26 : decode cX9_takesCaveat 26 = .ok (.iload_n 1, 1) := by decide +kernel
theorem dX9_takesCaveat_27 : decode cX9_takesCaveat 27 = .ok (.ifCond .ne 8, 3) := by decide +kernel
theorem dX9_takesCaveat_30 : decode cX9_takesCaveat 30 = .ok (.bipush 15, 2) := by decide +kernel
theorem dX9_takesCaveat_32 : decode cX9_takesCaveat 32 = .ok (.goto 15, 3) := by decide +kernel
theorem dX9_takesCaveat_35 : decode cX9_takesCaveat 35 = .ok (.iload_n 1, 1) := by decide +kernel
theorem dX9_takesCaveat_36 : decode cX9_takesCaveat 36 = .ok (.iconst 2, 1) := by decide +kernel
theorem dX9_takesCaveat_37 : decode cX9_takesCaveat 37 = .ok (.if_icmp .ne 7, 3) := by decide +kernel
theorem dX9_takesCaveat_40 : decode cX9_takesCaveat 40 = .ok (.iconst 5, 1) := by decide +kernel
theorem dX9_takesCaveat_41 : decode cX9_takesCaveat 41 = .ok (.goto 6, 3) := by decide +kernel
theorem dX9_takesCaveat_44 : decode cX9_takesCaveat 44 = .ok (.sipush 999, 3) := by decide +kernel
theorem dX9_takesCaveat_47 : decode cX9_takesCaveat 47 = .ok (.invokevirtual 108, 3) := by decide +kernel
theorem dX9_takesCaveat_50 : decode cX9_takesCaveat 50 = .ok (.ifCond .ne 5, 3) := by decide +kernel
theorem dX9_takesCaveat_53 : decode cX9_takesCaveat 53 = .ok (.iconst 0, 1) := by decide +kernel
theorem dX9_takesCaveat_54 : decode cX9_takesCaveat 54 = .ok (.ireturn, 1) := by decide +kernel
theorem dX9_takesCaveat_55 : decode cX9_takesCaveat 55 = .ok (.aload_n 0, 1) := by decide +kernel
theorem dX9_takesCaveat_56 : decode cX9_takesCaveat 56 = .ok (.getfield 32, 3) := by decide +kernel
theorem dX9_takesCaveat_59 : decode cX9_takesCaveat 59 = .ok (.iconst 3, 1) := by decide +kernel
theorem dX9_takesCaveat_60 : decode cX9_takesCaveat 60 = .ok (.aload_n 0, 1) := by decide +kernel
theorem dX9_takesCaveat_61 : decode cX9_takesCaveat 61 = .ok (.getfield 111, 3) := by decide +kernel
theorem dX9_takesCaveat_64 : decode cX9_takesCaveat 64 = .ok (.imul, 1) := by decide +kernel
theorem dX9_takesCaveat_65 : decode cX9_takesCaveat 65 = .ok (.iload_n 1, 1) := by decide +kernel
theorem dX9_takesCaveat_66 : decode cX9_takesCaveat 66 = .ok (.iastore, 1) := by decide +kernel
theorem dX9_takesCaveat_67 : decode cX9_takesCaveat 67 = .ok (.aload_n 0, 1) := by decide +kernel
theorem dX9_takesCaveat_68 : decode cX9_takesCaveat 68 = .ok (.getfield 32, 3) := by decide +kernel
theorem dX9_takesCaveat_71 : decode cX9_takesCaveat 71 = .ok (.iconst 3, 1) := by decide +kernel
theorem dX9_takesCaveat_72 : decode cX9_takesCaveat 72 = .ok (.aload_n 0, 1) := by decide +kernel
theorem dX9_takesCaveat_73 : decode cX9_takesCaveat 73 = .ok (.getfield 111, 3) := by decide +kernel
theorem dX9_takesCaveat_76 : decode cX9_takesCaveat 76 = .ok (.imul, 1) := by decide +kernel
theorem dX9_takesCaveat_77 : decode cX9_takesCaveat 77 = .ok (.iconst 1, 1) := by decide +kernel
theorem dX9_takesCaveat_78 : decode cX9_takesCaveat 78 = .ok (.iadd, 1) := by decide +kernel
theorem dX9_takesCaveat_79 : decode cX9_takesCaveat 79 = .ok (.aload_n 0, 1) := by decide +kernel
theorem dX9_takesCaveat_80 : decode cX9_takesCaveat 80 = .ok (.getfield 102, 3) := by decide +kernel
theorem dX9_takesCaveat_83 : decode cX9_takesCaveat 83 = .ok (.iastore, 1) := by decide +kernel
theorem dX9_takesCaveat_84 : decode cX9_takesCaveat 84 = .ok (.aload_n 0, 1) := by decide +kernel
theorem dX9_takesCaveat_85 : decode cX9_takesCaveat 85 = .ok (.getfield 32, 3) := by decide +kernel
theorem dX9_takesCaveat_88 : decode cX9_takesCaveat 88 = .ok (.iconst 3, 1) := by decide +kernel
theorem dX9_takesCaveat_89 : decode cX9_takesCaveat 89 = .ok (.aload_n 0, 1) := by decide +kernel
theorem dX9_takesCaveat_90 : decode cX9_takesCaveat 90 = .ok (.getfield 111, 3) := by decide +kernel
theorem dX9_takesCaveat_93 : decode cX9_takesCaveat 93 = .ok (.imul, 1) := by decide +kernel
theorem dX9_takesCaveat_94 : decode cX9_takesCaveat 94 = .ok (.iconst 2, 1) := by decide +kernel
theorem dX9_takesCaveat_95 : decode cX9_takesCaveat 95 = .ok (.iadd, 1) := by decide +kernel
theorem dX9_takesCaveat_96 : decode cX9_takesCaveat 96 = .ok (.iconst (-1), 1) := by decide +kernel
theorem dX9_takesCaveat_97 : decode cX9_takesCaveat 97 = .ok (.iastore, 1) := by decide +kernel
theorem dX9_takesCaveat_98 : decode cX9_takesCaveat 98 = .ok (.iload_n 1, 1) := by decide +kernel
theorem dX9_takesCaveat_99 : decode cX9_takesCaveat 99 = .ok (.iconst 4, 1) := by decide +kernel
theorem dX9_takesCaveat_100 : decode cX9_takesCaveat 100 = .ok (.if_icmp .ne 57, 3) := by decide +kernel
theorem dX9_takesCaveat_103 : decode cX9_takesCaveat 103 = .ok (.aload_n 0, 1) := by decide +kernel
theorem dX9_takesCaveat_104 : decode cX9_takesCaveat 104 = .ok (.invokevirtual 98, 3) := by decide +kernel
theorem dX9_takesCaveat_107 : decode cX9_takesCaveat 107 = .ok (.bipush 45, 2) := by decide +kernel
theorem dX9_takesCaveat_109 : decode cX9_takesCaveat 109 = .ok (.if_icmp .eq 5, 3) := by decide +kernel
theorem dX9_takesCaveat_112 : decode cX9_takesCaveat 112 = .ok (.iconst 0, 1) := by decide +kernel
theorem dX9_takesCaveat_113 : decode cX9_takesCaveat 113 = .ok (.ireturn, 1) := by decide +kernel
theorem dX9_takesCaveat_114 : decode cX9_takesCaveat 114 = .ok (.aload_n 0, 1) := by decide +kernel
theorem dX9_takesCaveat_115 : decode cX9_takesCaveat 115 = .ok (.dup, 1) := by decide +kernel
theorem dX9_takesCaveat_116 : decode cX9_takesCaveat 116 = .ok (.getfield 95, 3) := by decide +kernel
theorem dX9_takesCaveat_119 : decode cX9_takesCaveat 119 = .ok (.iconst 1, 1) := by decide +kernel
theorem dX9_takesCaveat_120 : decode cX9_takesCaveat 120 = .ok (.iadd, 1) := by decide +kernel
theorem dX9_takesCaveat_121 : decode cX9_takesCaveat 121 = .ok (.putfield 95, 3) := by decide +kernel
theorem dX9_takesCaveat_124 : decode cX9_takesCaveat 124 = .ok (.aload_n 0, 1) := by decide +kernel
theorem dX9_takesCaveat_125 : decode cX9_takesCaveat 125 = .ok (.aload_n 0, 1) := by decide +kernel
theorem dX9_takesCaveat_126 : decode cX9_takesCaveat 126 = .ok (.getfield 102, 3) := by decide +kernel
theorem dX9_takesCaveat_129 : decode cX9_takesCaveat 129 = .ok (.sipush 999, 3) := by decide +kernel
theorem dX9_takesCaveat_132 : decode cX9_takesCaveat 132 = .ok (.invokevirtual 108, 3) := by decide +kernel
theorem dX9_takesCaveat_135 : decode cX9_takesCaveat 135 = .ok (.ifCond .ne 5, 3) := by decide +kernel
theorem dX9_takesCaveat_138 : decode cX9_takesCaveat 138 = .ok (.iconst 0, 1) := by decide +kernel
theorem dX9_takesCaveat_139 : decode cX9_takesCaveat 139 = .ok (.ireturn, 1) := by decide +kernel
theorem dX9_takesCaveat_140 : decode cX9_takesCaveat 140 = .ok (.aload_n 0, 1) := by decide +kernel
theorem dX9_takesCaveat_141 : decode cX9_takesCaveat 141 = .ok (.getfield 32, 3) := by decide +kernel
theorem dX9_takesCaveat_144 : decode cX9_takesCaveat 144 = .ok (.iconst 3, 1) := by decide +kernel
theorem dX9_takesCaveat_145 : decode cX9_takesCaveat 145 = .ok (.aload_n 0, 1) := by decide +kernel
theorem dX9_takesCaveat_146 : decode cX9_takesCaveat 146 = .ok (.getfield 111, 3) := by decide +kernel
theorem dX9_takesCaveat_149 : decode cX9_takesCaveat 149 = .ok (.imul, 1) := by decide +kernel
theorem dX9_takesCaveat_150 : decode cX9_takesCaveat 150 = .ok (.iconst 2, 1) := by decide +kernel
theorem dX9_takesCaveat_151 : decode cX9_takesCaveat 151 = .ok (.iadd, 1) := by decide +kernel
theorem dX9_takesCaveat_152 : decode cX9_takesCaveat 152 = .ok (.aload_n 0, 1) := by decide +kernel
theorem dX9_takesCaveat_153 : decode cX9_takesCaveat 153 = .ok (.getfield 102, 3) := by decide +kernel
theorem dX9_takesCaveat_156 : decode cX9_takesCaveat 156 = .ok (.iastore, 1) := by decide +kernel
theorem dX9_takesCaveat_157 : decode cX9_takesCaveat 157 = .ok (.aload_n 0, 1) := by decide +kernel
theorem dX9_takesCaveat_158 : decode cX9_takesCaveat 158 = .ok (.dup, 1) := by decide +kernel
theorem dX9_takesCaveat_159 : decode cX9_takesCaveat 159 = .ok (.getfield 111, 3) := by decide +kernel
theorem dX9_takesCaveat_162 : decode cX9_takesCaveat 162 = .ok (.iconst 1, 1) := by decide +kernel
theorem dX9_takesCaveat_163 : decode cX9_takesCaveat 163 = .ok (.iadd, 1) := by decide +kernel
theorem dX9_takesCaveat_164 : decode cX9_takesCaveat 164 = .ok (.putfield 111, 3) := by decide +kernel
theorem dX9_takesCaveat_167 : decode cX9_takesCaveat 167 = .ok (.iconst 1, 1) := by decide +kernel
theorem dX9_takesCaveat_168 : decode cX9_takesCaveat 168 = .ok (.ireturn, 1) := by decide +kernel
set_option maxRecDepth 20000 in
theorem ggX9_takesCaveat_X9_here : GoodIn wsX9_takesCaveat wsX9_here := goodIn_ca (goodIn_r _ [9, 1, 10, 11, 22, 23, 24, 25, 26, 27, 28, 29, 30, 31, 32, 33, 34, 35, 36, 37, 38, 39, 40, 41] (by decide +kernel) (by decide +kernel)) (goodIn_sub (fun _ h => List.mem_cons_of_mem _ (List.mem_append_right _ h)) (by decide +kernel))
set_option maxRecDepth 20000 in
theorem gX9_takesCaveat_X9_here : GoodIn wsX9_takesCaveat (wsV RX9 98 RX9 yX9_here wsX9_here) := goodIn_app (goodIn_of _ (by decide +kernel)) ggX9_takesCaveat_X9_here
set_option maxRecDepth 20000 in
theorem ggX9_takesCaveat_X9_kindOf : GoodIn wsX9_takesCaveat wsX9_kindOf := goodIn_r _ [14] (by decide +kernel) (by decide +kernel)
set_option maxRecDepth 20000 in
theorem gX9_takesCaveat_X9_kindOf : GoodIn wsX9_takesCaveat (va_wsS RX9 105 yX9_kindOf wsX9_kindOf) := goodIn_app (goodIn_of _ (by decide +kernel)) ggX9_takesCaveat_X9_kindOf
set_option maxRecDepth 20000 in
theorem ggX9_takesCaveat_X9_takesNumber : GoodIn wsX9_takesCaveat wsX9_takesNumber := goodIn_ca (goodIn_r _ [18, 1, 4, 5, 6, 7, 8, 9, 10, 11, 19, 20, 21, 22, 23, 24, 25, 26, 27, 28, 29, 30, 31, 32, 33, 34, 35, 36, 37, 38, 39, 40, 41] (by decide +kernel) (by decide +kernel)) (goodIn_sub (fun _ h => List.mem_cons_of_mem _ (List.mem_append_right _ h)) (by decide +kernel))
set_option maxRecDepth 20000 in
theorem gX9_takesCaveat_X9_takesNumber : GoodIn wsX9_takesCaveat (wsV RX9 108 RX9 yX9_takesNumber wsX9_takesNumber) := goodIn_app (goodIn_of _ (by decide +kernel)) ggX9_takesCaveat_X9_takesNumber
def rm_X9_takesCaveat : Room := { frames := 3, cells := 0, slots := 0, locals := 62 }
set_option maxHeartbeats 4000000 in
set_option maxRecDepth 100000 in
theorem c_X9_takesCaveat (l : Launch) {G : zG} {ad : Nat → Nat} {σ σ' : zs} {r : Int32} (hf : f_X9_takesCaveat σ  = some (r, σ')) : xMi l yX9_takesCaveat wsX9_takesCaveat rm_X9_takesCaveat G ad σ [.ref (ad 65)] r σ' := by
  intro sz nb a g hs
  refine Met.ofW (cc := cX9_takesCaveat) (maxL := 2) (ret := (some .boolean)) (by decide) rfl ?_
  intro p e s m args below meth c s₁ B hml hv
  obtain ⟨rfl, hsz, hv⟩ := hv
  have hx := B.exec
  have hb := B.bytes
  have hr := B.returns
  have hts := atoms_spec (ws := wsX9_takesCaveat) B.pre
  have hown : s.vm.findClass RX9 = some m.cls := findClass_of_methodNamed B.named
  have hlocks := B.notSynchronized
  subst hsz
  have B := xB_start hs hv
  have hinRX9 : ∀ w ∈ wsX90, w ∈ wsX9_takesCaveat := by decide +kernel
  have hl := lv_entry ([.ref (ad 65)]) (n := 2) (Nat.le_of_ble_eq_true rfl)
  rw [lg_entry_eq]
  generalize (lg_sl ([.ref (ad 65)]) ++ List.replicate (2 - (lg_sl ([.ref (ad 65)])).length) Slot.unset).toArray = ls at hl ⊢
  have hl : lv_has ls 2 [(0, .ref (ad 65))] := hl
  generalize hAe : xA ad a s.heap.size = A at B ⊢
  have L157 : ∀ (σ : zs) (H : Heap) (locs : List Loc) (ls : Array Slot), f_X9_takesCaveat_157 σ  = some (r, σ') → xB A s G ad σ H locs → lv_has ls 2 [(0, .ref (ad 65))] → W p l e (headSpec wsX9_takesCaveat rm_X9_takesCaveat).room s m ([.ref (ad 65)] : List Value).toArray below meth c H locs 0 0 (MQ below (va_Qi (fun r' (u : xV) => r' = r ∧ xQ σ' u) (xPost G ad σ' A) A) ([.ref (ad 65)] : List Value).toArray s 0 0 A) (F0 m 157 ls []) := by
    intro σ  H locs ls hf B hl
    unfold f_X9_takesCaveat_157 at hf
    refine lv_aload_n hx hb dX9_takesCaveat_157 rfl (lv_at hl 0 rfl) ?_
    refine lv_dup hx hb dX9_takesCaveat_158 rfl ?_
    refine x_geti hx hb hts hinRX9 hown B 65 14 (by decide) (fun _ => rfl) rfl rfl (by decide) (by decide +kernel) rfl dX9_takesCaveat_159 ?_
    refine lv_iconst (v := (1 : Int32)) hx hb dX9_takesCaveat_162 (by decide) ?_
    refine lv_iadd hx hb dX9_takesCaveat_163 ?_
    refine x_puti hx hb hts hinRX9 hown tyX9 tyX9_ok nmX9 B 65 14 (by decide) (by decide) (fun _ => rfl) rfl rfl (by decide) (by decide +kernel) rfl rfl rfl rfl dX9_takesCaveat_164 (fun H locs B => ?_)
    refine lv_iconst (v := (1 : Int32)) hx hb dX9_takesCaveat_167 (by decide) ?_
    refine W.widen (k := 0) (n := 0) (Nat.le_of_ble_eq_true rfl) (Nat.le_of_ble_eq_true rfl) ?_
    exact x_iret hx hb hr (by decide) hlocks B hf dX9_takesCaveat_168
  have L47 : ∀ (σ : zs) (v1 : Int32) (s0 : Int32) (s1 : Int32) (H : Heap) (locs : List Loc) (ls : Array Slot), f_X9_takesCaveat_47 σ v1 s0 s1 = some (r, σ') → xB A s G ad σ H locs → lv_has ls 2 [(0, .ref (ad 65)), (1, .int v1)] → W p l e (headSpec wsX9_takesCaveat rm_X9_takesCaveat).room s m ([.ref (ad 65)] : List Value).toArray below meth c H locs 0 0 (MQ below (va_Qi (fun r' (u : xV) => r' = r ∧ xQ σ' u) (xPost G ad σ' A) A) ([.ref (ad 65)] : List Value).toArray s 0 0 A) (F0 m 47 ls [.int s0, .int s1, .ref (ad 65)]) := by
    intro σ v1 s0 s1 H locs ls hf B hl
    unfold f_X9_takesCaveat_47 at hf
    obtain ⟨r8, σ9, hu7, hf⟩ := zb_some hf
    refine x_i B (fun nb a g hs Bz => va_runV (As := [.int s1, .int s0]) (rest := []) ⟨hx, hb, hml, hown, hts⟩ (c_X9_takesNumber l hu7 _ nb a g hs) (cwV 2 hts gX9_takesCaveat_X9_takesNumber rfl rfl rfl (by decide +kernel) ⟨Nat.le_of_ble_eq_true rfl, Nat.le_of_ble_eq_true rfl⟩) (x_preV Bz (by decide) (fun _ => rfl) rfl) rfl rfl hl.1 rfl (lv_room (Nat.le_of_ble_eq_true rfl)) dX9_takesCaveat_47 ⟨Nat.le_of_ble_eq_true rfl, Nat.le_of_ble_eq_true rfl⟩) (fun H locs B => ?_)
    refine lv_if_ne (tgt := 55) hx hb dX9_takesCaveat_50 (by decide) (fun hc => ?_) (fun hc => ?_)
    · have hf := zif_f hc hf
      refine lv_aload_n hx hb dX9_takesCaveat_55 rfl (lv_at hl 0 rfl) ?_
      refine x_getr hx hb hts hinRX9 hown B 65 13 72 (by decide) (by decide) (fun _ => rfl) rfl rfl (by decide) (by decide +kernel) rfl dX9_takesCaveat_56 ?_
      refine lv_iconst (v := (3 : Int32)) hx hb dX9_takesCaveat_59 (by decide) ?_
      refine lv_aload_n hx hb dX9_takesCaveat_60 rfl (lv_at hl 0 rfl) ?_
      refine x_geti hx hb hts hinRX9 hown B 65 14 (by decide) (fun _ => rfl) rfl rfl (by decide) (by decide +kernel) rfl dX9_takesCaveat_61 ?_
      refine lv_imul hx hb dX9_takesCaveat_64 ?_
      refine lv_iload_n hx hb dX9_takesCaveat_65 rfl (lv_at hl 1 rfl) ?_
      obtain ⟨hg, hf⟩ := zg_some hf
      refine x_iast hx hb B 72 (by decide) (by decide) (fun _ => rfl) (zin_ok hg) dX9_takesCaveat_66 (fun H locs B => ?_)
      refine lv_aload_n hx hb dX9_takesCaveat_67 rfl (lv_at hl 0 rfl) ?_
      refine x_getr hx hb hts hinRX9 hown B 65 13 72 (by decide) (by decide) (fun _ => rfl) rfl rfl (by decide) (by decide +kernel) rfl dX9_takesCaveat_68 ?_
      refine lv_iconst (v := (3 : Int32)) hx hb dX9_takesCaveat_71 (by decide) ?_
      refine lv_aload_n hx hb dX9_takesCaveat_72 rfl (lv_at hl 0 rfl) ?_
      refine x_geti hx hb hts hinRX9 hown B 65 14 (by decide) (fun _ => rfl) rfl rfl (by decide) (by decide +kernel) rfl dX9_takesCaveat_73 ?_
      refine lv_imul hx hb dX9_takesCaveat_76 ?_
      refine lv_iconst (v := (1 : Int32)) hx hb dX9_takesCaveat_77 (by decide) ?_
      refine lv_iadd hx hb dX9_takesCaveat_78 ?_
      refine lv_aload_n hx hb dX9_takesCaveat_79 rfl (lv_at hl 0 rfl) ?_
      refine x_geti hx hb hts hinRX9 hown B 65 12 (by decide) (fun _ => rfl) rfl rfl (by decide) (by decide +kernel) rfl dX9_takesCaveat_80 ?_
      obtain ⟨hg, hf⟩ := zg_some hf
      refine x_iast hx hb B 72 (by decide) (by decide) (fun _ => rfl) (zin_ok hg) dX9_takesCaveat_83 (fun H locs B => ?_)
      refine lv_aload_n hx hb dX9_takesCaveat_84 rfl (lv_at hl 0 rfl) ?_
      refine x_getr hx hb hts hinRX9 hown B 65 13 72 (by decide) (by decide) (fun _ => rfl) rfl rfl (by decide) (by decide +kernel) rfl dX9_takesCaveat_85 ?_
      refine lv_iconst (v := (3 : Int32)) hx hb dX9_takesCaveat_88 (by decide) ?_
      refine lv_aload_n hx hb dX9_takesCaveat_89 rfl (lv_at hl 0 rfl) ?_
      refine x_geti hx hb hts hinRX9 hown B 65 14 (by decide) (fun _ => rfl) rfl rfl (by decide) (by decide +kernel) rfl dX9_takesCaveat_90 ?_
      refine lv_imul hx hb dX9_takesCaveat_93 ?_
      refine lv_iconst (v := (2 : Int32)) hx hb dX9_takesCaveat_94 (by decide) ?_
      refine lv_iadd hx hb dX9_takesCaveat_95 ?_
      refine lv_iconst (v := (-1 : Int32)) hx hb dX9_takesCaveat_96 (by decide) ?_
      obtain ⟨hg, hf⟩ := zg_some hf
      refine x_iast hx hb B 72 (by decide) (by decide) (fun _ => rfl) (zin_ok hg) dX9_takesCaveat_97 (fun H locs B => ?_)
      refine lv_iload_n hx hb dX9_takesCaveat_98 rfl (lv_at hl 1 rfl) ?_
      refine lv_iconst (v := (4 : Int32)) hx hb dX9_takesCaveat_99 (by decide) ?_
      refine lv_icmp_ne (tgt := 157) hx hb dX9_takesCaveat_100 (by decide) (fun hc => ?_) (fun hc => ?_)
      · have hf := zif_f hc hf
        exact L157  _  _ _ _ hf B (lv_sub hl [0] rfl)
      · have hf := zif_t hc hf
        refine lv_aload_n hx hb dX9_takesCaveat_103 rfl (lv_at hl 0 rfl) ?_
        obtain ⟨r11, σ12, hu10, hf⟩ := zb_some hf
        refine x_i B (fun nb a g hs Bz => va_runV (As := []) (rest := []) ⟨hx, hb, hml, hown, hts⟩ (c_X9_here l hu10 _ nb a g hs) (cwV 0 hts gX9_takesCaveat_X9_here rfl rfl rfl (by decide +kernel) ⟨Nat.le_of_ble_eq_true rfl, Nat.le_of_ble_eq_true rfl⟩) (x_preV Bz (by decide) (fun _ => rfl) rfl) rfl rfl hl.1 rfl (lv_room (Nat.le_of_ble_eq_true rfl)) dX9_takesCaveat_104 ⟨Nat.le_of_ble_eq_true rfl, Nat.le_of_ble_eq_true rfl⟩) (fun H locs B => ?_)
        refine lv_bipush (v := (45 : Int32)) hx hb dX9_takesCaveat_107 (by decide) ?_
        refine lv_icmp_eq (tgt := 114) hx hb dX9_takesCaveat_109 (by decide) (fun hc => ?_) (fun hc => ?_)
        · have hf := zif_t hc hf
          refine lv_aload_n hx hb dX9_takesCaveat_114 rfl (lv_at hl 0 rfl) ?_
          refine lv_dup hx hb dX9_takesCaveat_115 rfl ?_
          refine x_geti hx hb hts hinRX9 hown B 65 11 (by decide) (fun _ => rfl) rfl rfl (by decide) (by decide +kernel) rfl dX9_takesCaveat_116 ?_
          refine lv_iconst (v := (1 : Int32)) hx hb dX9_takesCaveat_119 (by decide) ?_
          refine lv_iadd hx hb dX9_takesCaveat_120 ?_
          refine x_puti hx hb hts hinRX9 hown tyX9 tyX9_ok nmX9 B 65 11 (by decide) (by decide) (fun _ => rfl) rfl rfl (by decide) (by decide +kernel) rfl rfl rfl rfl dX9_takesCaveat_121 (fun H locs B => ?_)
          refine lv_aload_n hx hb dX9_takesCaveat_124 rfl (lv_at hl 0 rfl) ?_
          refine lv_aload_n hx hb dX9_takesCaveat_125 rfl (lv_at hl 0 rfl) ?_
          refine x_geti hx hb hts hinRX9 hown B 65 12 (by decide) (fun _ => rfl) rfl rfl (by decide) (by decide +kernel) rfl dX9_takesCaveat_126 ?_
          refine lv_sipush (v := (999 : Int32)) hx hb dX9_takesCaveat_129 (by decide) ?_
          obtain ⟨r14, σ15, hu13, hf⟩ := zb_some hf
          refine x_i B (fun nb a g hs Bz => va_runV (As := [.int ((zp σ12 65 11 ((σ12 65 11) + (1 : Int32))) 65 12), .int (999 : Int32)]) (rest := []) ⟨hx, hb, hml, hown, hts⟩ (c_X9_takesNumber l hu13 _ nb a g hs) (cwV 2 hts gX9_takesCaveat_X9_takesNumber rfl rfl rfl (by decide +kernel) ⟨Nat.le_of_ble_eq_true rfl, Nat.le_of_ble_eq_true rfl⟩) (x_preV Bz (by decide) (fun _ => rfl) rfl) rfl rfl hl.1 rfl (lv_room (Nat.le_of_ble_eq_true rfl)) dX9_takesCaveat_132 ⟨Nat.le_of_ble_eq_true rfl, Nat.le_of_ble_eq_true rfl⟩) (fun H locs B => ?_)
          refine lv_if_ne (tgt := 140) hx hb dX9_takesCaveat_135 (by decide) (fun hc => ?_) (fun hc => ?_)
          · have hf := zif_f hc hf
            refine lv_aload_n hx hb dX9_takesCaveat_140 rfl (lv_at hl 0 rfl) ?_
            refine x_getr hx hb hts hinRX9 hown B 65 13 72 (by decide) (by decide) (fun _ => rfl) rfl rfl (by decide) (by decide +kernel) rfl dX9_takesCaveat_141 ?_
            refine lv_iconst (v := (3 : Int32)) hx hb dX9_takesCaveat_144 (by decide) ?_
            refine lv_aload_n hx hb dX9_takesCaveat_145 rfl (lv_at hl 0 rfl) ?_
            refine x_geti hx hb hts hinRX9 hown B 65 14 (by decide) (fun _ => rfl) rfl rfl (by decide) (by decide +kernel) rfl dX9_takesCaveat_146 ?_
            refine lv_imul hx hb dX9_takesCaveat_149 ?_
            refine lv_iconst (v := (2 : Int32)) hx hb dX9_takesCaveat_150 (by decide) ?_
            refine lv_iadd hx hb dX9_takesCaveat_151 ?_
            refine lv_aload_n hx hb dX9_takesCaveat_152 rfl (lv_at hl 0 rfl) ?_
            refine x_geti hx hb hts hinRX9 hown B 65 12 (by decide) (fun _ => rfl) rfl rfl (by decide) (by decide +kernel) rfl dX9_takesCaveat_153 ?_
            obtain ⟨hg, hf⟩ := zg_some hf
            refine x_iast hx hb B 72 (by decide) (by decide) (fun _ => rfl) (zin_ok hg) dX9_takesCaveat_156 (fun H locs B => ?_)
            exact L157  _  _ _ _ hf B (lv_sub hl [0] rfl)
          · have hf := zif_t hc hf
            refine lv_iconst (v := (0 : Int32)) hx hb dX9_takesCaveat_138 (by decide) ?_
            refine W.widen (k := 0) (n := 0) (Nat.le_of_ble_eq_true rfl) (Nat.le_of_ble_eq_true rfl) ?_
            exact x_iret hx hb hr (by decide) hlocks B hf dX9_takesCaveat_139
        · have hf := zif_f hc hf
          refine lv_iconst (v := (0 : Int32)) hx hb dX9_takesCaveat_112 (by decide) ?_
          refine W.widen (k := 0) (n := 0) (Nat.le_of_ble_eq_true rfl) (Nat.le_of_ble_eq_true rfl) ?_
          exact x_iret hx hb hr (by decide) hlocks B hf dX9_takesCaveat_113
    · have hf := zif_t hc hf
      refine lv_iconst (v := (0 : Int32)) hx hb dX9_takesCaveat_53 (by decide) ?_
      refine W.widen (k := 0) (n := 0) (Nat.le_of_ble_eq_true rfl) (Nat.le_of_ble_eq_true rfl) ?_
      exact x_iret hx hb hr (by decide) hlocks B hf dX9_takesCaveat_54
  unfold f_X9_takesCaveat at hf
  refine lv_aload_n hx hb dX9_takesCaveat_0 rfl (lv_at hl 0 rfl) ?_
  obtain ⟨r2, σ3, hu1, hf⟩ := zb_some hf
  refine x_i B (fun nb a g hs Bz => va_runV (As := []) (rest := []) ⟨hx, hb, hml, hown, hts⟩ (c_X9_here l hu1 _ nb a g hs) (cwV 0 hts gX9_takesCaveat_X9_here rfl rfl rfl (by decide +kernel) ⟨Nat.le_of_ble_eq_true rfl, Nat.le_of_ble_eq_true rfl⟩) (x_preV Bz (by decide) (fun _ => rfl) rfl) rfl rfl hl.1 rfl (lv_room (Nat.le_of_ble_eq_true rfl)) dX9_takesCaveat_1 ⟨Nat.le_of_ble_eq_true rfl, Nat.le_of_ble_eq_true rfl⟩) (fun H locs B => ?_)
  obtain ⟨r5, σ6, hu4, hf⟩ := zb_some hf
  refine x_i B (fun nb a g hs Bz => va_runS (As := [.int r2]) (rest := []) ⟨hx, hb, hml, hown, hts⟩ (c_X9_kindOf l hu4 _ nb a g hs) (va_cwS 1 hts gX9_takesCaveat_X9_kindOf rfl rfl rfl (by decide +kernel) ⟨Nat.le_of_ble_eq_true rfl, Nat.le_of_ble_eq_true rfl⟩) (z_preS Bz) rfl rfl hl.1 rfl (lv_room (Nat.le_of_ble_eq_true rfl)) dX9_takesCaveat_4 ⟨Nat.le_of_ble_eq_true rfl, Nat.le_of_ble_eq_true rfl⟩) (fun H locs B => ?_)
  refine lv_istore_n (lv' := [(1, .int r5), (0, .ref (ad 65))]) hx hb dX9_takesCaveat_7 rfl hl (by decide) rfl (fun ls hl => ?_)
  refine lv_iload_n hx hb dX9_takesCaveat_8 rfl (lv_at hl 0 rfl) ?_
  refine lv_if_ge (tgt := 14) hx hb dX9_takesCaveat_9 (by decide) (fun hc => ?_) (fun hc => ?_)
  · have hf := zif_t hc hf
    refine lv_aload_n hx hb dX9_takesCaveat_14 rfl (lv_at hl 1 rfl) ?_
    refine lv_dup hx hb dX9_takesCaveat_15 rfl ?_
    refine x_geti hx hb hts hinRX9 hown B 65 11 (by decide) (fun _ => rfl) rfl rfl (by decide) (by decide +kernel) rfl dX9_takesCaveat_16 ?_
    refine lv_iconst (v := (1 : Int32)) hx hb dX9_takesCaveat_19 (by decide) ?_
    refine lv_iadd hx hb dX9_takesCaveat_20 ?_
    refine x_puti hx hb hts hinRX9 hown tyX9 tyX9_ok nmX9 B 65 11 (by decide) (by decide) (fun _ => rfl) rfl rfl (by decide) (by decide +kernel) rfl rfl rfl rfl dX9_takesCaveat_21 (fun H locs B => ?_)
    refine lv_aload_n hx hb dX9_takesCaveat_24 rfl (lv_at hl 1 rfl) ?_
    refine lv_iconst (v := (0 : Int32)) hx hb dX9_takesCaveat_25 (by decide) ?_
    refine lv_iload_n hx hb dX9_takesCaveat_26 rfl (lv_at hl 0 rfl) ?_
    refine lv_if_ne (tgt := 35) hx hb dX9_takesCaveat_27 (by decide) (fun hc => ?_) (fun hc => ?_)
    · have hf := zif_f hc hf
      refine lv_iload_n hx hb dX9_takesCaveat_35 rfl (lv_at hl 0 rfl) ?_
      refine lv_iconst (v := (2 : Int32)) hx hb dX9_takesCaveat_36 (by decide) ?_
      refine lv_icmp_ne (tgt := 44) hx hb dX9_takesCaveat_37 (by decide) (fun hc => ?_) (fun hc => ?_)
      · have hf := zif_f hc hf
        refine lv_sipush (v := (999 : Int32)) hx hb dX9_takesCaveat_44 (by decide) ?_
        exact L47  _ _ _ _ _ _ _ hf B (lv_sub hl [1, 0] rfl)
      · have hf := zif_t hc hf
        refine lv_iconst (v := (5 : Int32)) hx hb dX9_takesCaveat_40 (by decide) ?_
        refine lv_goto (tgt := 47) hx hb dX9_takesCaveat_41 (by decide) ?_
        exact L47  _ _ _ _ _ _ _ hf B (lv_sub hl [1, 0] rfl)
    · have hf := zif_t hc hf
      refine lv_bipush (v := (15 : Int32)) hx hb dX9_takesCaveat_30 (by decide) ?_
      refine lv_goto (tgt := 47) hx hb dX9_takesCaveat_32 (by decide) ?_
      exact L47  _ _ _ _ _ _ _ hf B (lv_sub hl [1, 0] rfl)
  · have hf := zif_f hc hf
    refine lv_iconst (v := (0 : Int32)) hx hb dX9_takesCaveat_12 (by decide) ?_
    refine W.widen (k := 0) (n := 0) (Nat.le_of_ble_eq_true rfl) (Nat.le_of_ble_eq_true rfl) ?_
    exact x_iret hx hb hr (by decide) hlocks B hf dX9_takesCaveat_13
theorem dX9_takesAll_0 : decode cX9_takesAll 0 = .ok (.aload_n 0, 1) := by decide +kernel
theorem dX9_takesAll_1 : decode cX9_takesAll 1 = .ok (.iconst 0, 1) := by decide +kernel
theorem dX9_takesAll_2 : decode cX9_takesAll 2 = .ok (.putfield 95, 3) := by decide +kernel
theorem dX9_takesAll_5 : decode cX9_takesAll 5 = .ok (.aload_n 0, 1) := by decide +kernel
theorem dX9_takesAll_6 : decode cX9_takesAll 6 = .ok (.iconst 0, 1) := by decide +kernel
theorem dX9_takesAll_7 : decode cX9_takesAll 7 = .ok (.putfield 111, 3) := by decide +kernel
theorem dX9_takesAll_10 : decode cX9_takesAll 10 = .ok (.aload_n 0, 1) := by decide +kernel
theorem dX9_takesAll_11 : decode cX9_takesAll 11 = .ok (.invokevirtual 114, 3) := by decide +kernel
theorem dX9_takesAll_14 : decode cX9_takesAll 14 = .ok (.ifCond .ne 5, 3) := by decide +kernel
theorem dX9_takesAll_17 : decode cX9_takesAll 17 = .ok (.iconst 0, 1) := by decide +kernel
theorem dX9_takesAll_18 : decode cX9_takesAll 18 = .ok (.ireturn, 1) := by decide +kernel
theorem dX9_takesAll_19 : decode cX9_takesAll 19 = .ok (.aload_n 0, 1) := by decide +kernel
theorem dX9_takesAll_20 : decode cX9_takesAll 20 = .ok (.invokevirtual 98, 3) := by decide +kernel
theorem dX9_takesAll_23 : decode cX9_takesAll 23 = .ok (.bipush 59, 2) := by decide +kernel
theorem dX9_takesAll_25 : decode cX9_takesAll 25 = .ok (.if_icmp .ne 30, 3) := by decide +kernel
theorem dX9_takesAll_28 : decode cX9_takesAll 28 = .ok (.aload_n 0, 1) := by decide +kernel
theorem dX9_takesAll_29 : decode cX9_takesAll 29 = .ok (.getfield 111, 3) := by decide +kernel
theorem dX9_takesAll_32 : decode cX9_takesAll 32 = .ok (.iconst 4, 1) := by decide +kernel
theorem dX9_takesAll_33 : decode cX9_takesAll 33 = .ok (.if_icmp .ge 22, 3) := by decide +kernel
theorem dX9_takesAll_36 : decode cX9_takesAll 36 = .ok (.aload_n 0, 1) := by decide +kernel
theorem dX9_takesAll_37 : decode cX9_takesAll 37 = .ok (.dup, 1) := by decide +kernel
theorem dX9_takesAll_38 : decode cX9_takesAll 38 = .ok (.getfield 95, 3) := by decide +kernel
theorem dX9_takesAll_41 : decode cX9_takesAll 41 = .ok (.iconst 1, 1) := by decide +kernel
theorem dX9_takesAll_42 : decode cX9_takesAll 42 = .ok (.iadd, 1) := by decide +kernel
theorem dX9_takesAll_43 : decode cX9_takesAll 43 = .ok (.putfield 95, 3) := by decide +kernel
theorem dX9_takesAll_46 : decode cX9_takesAll 46 = .ok (.aload_n 0, 1) := by decide +kernel
theorem dX9_takesAll_47 : decode cX9_takesAll 47 = .ok (.invokevirtual 114, 3) := by decide +kernel
theorem dX9_takesAll_50 : decode cX9_takesAll 50 = .ok (.ifCond .ne (-31), 3) := by decide +kernel
theorem dX9_takesAll_53 : decode cX9_takesAll 53 = .ok (.iconst 0, 1) := by decide +kernel
theorem dX9_takesAll_54 : decode cX9_takesAll 54 = .ok (.ireturn, 1) := by decide +kernel
theorem dX9_takesAll_55 : decode cX9_takesAll 55 = .ok (.aload_n 0, 1) := by decide +kernel
theorem dX9_takesAll_56 : decode cX9_takesAll 56 = .ok (.getfield 95, 3) := by decide +kernel
theorem dX9_takesAll_59 : decode cX9_takesAll 59 = .ok (.aload_n 0, 1) := by decide +kernel
theorem dX9_takesAll_60 : decode cX9_takesAll 60 = .ok (.getfield 92, 3) := by decide +kernel
theorem dX9_takesAll_63 : decode cX9_takesAll 63 = .ok (.if_icmp .ne 7, 3) := by decide +kernel
theorem dX9_takesAll_66 : decode cX9_takesAll 66 = .ok (.iconst 1, 1) := by decide +kernel
theorem dX9_takesAll_67 : decode cX9_takesAll 67 = .ok (.goto 4, 3) := by decide +kernel
theorem dX9_takesAll_70 : decode cX9_takesAll 70 = .ok (.iconst 0, 1) := by decide +kernel
theorem dX9_takesAll_71 : decode cX9_takesAll 71 = .ok (.ireturn, 1) := by decide +kernel
set_option maxRecDepth 20000 in
theorem ggX9_takesAll_X9_takesCaveat : GoodIn wsX9_takesAll wsX9_takesCaveat := goodIn_ca (goodIn_r _ [8, 1, 9, 2, 10, 11, 12, 13, 7, 14, 3, 15, 16, 17, 18, 19, 20, 21, 22, 23, 24, 25, 26, 27, 28, 29, 30, 31, 32, 33, 34, 35, 36, 37, 38, 39, 40, 41, 42, 43, 44, 45] (by decide +kernel) (by decide +kernel)) (goodIn_sub (fun _ h => List.mem_cons_of_mem _ (List.mem_append_right _ h)) (by decide +kernel))
set_option maxRecDepth 20000 in
theorem gX9_takesAll_X9_takesCaveat : GoodIn wsX9_takesAll (wsV RX9 114 RX9 yX9_takesCaveat wsX9_takesCaveat) := goodIn_app (goodIn_of _ (by decide +kernel)) ggX9_takesAll_X9_takesCaveat
set_option maxRecDepth 20000 in
theorem ggX9_takesAll_X9_here : GoodIn wsX9_takesAll wsX9_here := goodIn_ca (goodIn_r _ [14, 1, 3, 15, 26, 27, 28, 29, 30, 31, 32, 33, 34, 35, 36, 37, 38, 39, 40, 41, 42, 43, 44, 45] (by decide +kernel) (by decide +kernel)) (goodIn_sub (fun _ h => List.mem_cons_of_mem _ (List.mem_append_right _ h)) (by decide +kernel))
set_option maxRecDepth 20000 in
theorem gX9_takesAll_X9_here : GoodIn wsX9_takesAll (wsV RX9 98 RX9 yX9_here wsX9_here) := goodIn_app (goodIn_of _ (by decide +kernel)) ggX9_takesAll_X9_here
def rm_X9_takesAll : Room := { frames := 4, cells := 0, slots := 0, locals := 83 }
set_option maxHeartbeats 4000000 in
set_option maxRecDepth 100000 in
theorem c_X9_takesAll (l : Launch) {G : zG} {ad : Nat → Nat} {σ σ' : zs} {r : Int32} (hf : f_X9_takesAll σ  = some (r, σ')) : xMi l yX9_takesAll wsX9_takesAll rm_X9_takesAll G ad σ [.ref (ad 65)] r σ' := by
  intro sz nb a g hs
  refine Met.ofW (cc := cX9_takesAll) (maxL := 1) (ret := (some .boolean)) (by decide) rfl ?_
  intro p e s m args below meth c s₁ B hml hv
  obtain ⟨rfl, hsz, hv⟩ := hv
  have hx := B.exec
  have hb := B.bytes
  have hr := B.returns
  have hts := atoms_spec (ws := wsX9_takesAll) B.pre
  have hown : s.vm.findClass RX9 = some m.cls := findClass_of_methodNamed B.named
  have hlocks := B.notSynchronized
  subst hsz
  have B := xB_start hs hv
  have hinRX9 : ∀ w ∈ wsX90, w ∈ wsX9_takesAll := by decide +kernel
  have hl := lv_entry ([.ref (ad 65)]) (n := 1) (Nat.le_of_ble_eq_true rfl)
  rw [lg_entry_eq]
  generalize (lg_sl ([.ref (ad 65)]) ++ List.replicate (1 - (lg_sl ([.ref (ad 65)])).length) Slot.unset).toArray = ls at hl ⊢
  have hl : lv_has ls 1 [(0, .ref (ad 65))] := hl
  generalize hAe : xA ad a s.heap.size = A at B ⊢
  have L55 : ∀ (σ : zs) (H : Heap) (locs : List Loc) (ls : Array Slot), f_X9_takesAll_55 σ  = some (r, σ') → xB A s G ad σ H locs → lv_has ls 1 [(0, .ref (ad 65))] → W p l e (headSpec wsX9_takesAll rm_X9_takesAll).room s m ([.ref (ad 65)] : List Value).toArray below meth c H locs 0 0 (MQ below (va_Qi (fun r' (u : xV) => r' = r ∧ xQ σ' u) (xPost G ad σ' A) A) ([.ref (ad 65)] : List Value).toArray s 0 0 A) (F0 m 55 ls []) := by
    intro σ  H locs ls hf B hl
    unfold f_X9_takesAll_55 at hf
    refine lv_aload_n hx hb dX9_takesAll_55 rfl (lv_at hl 0 rfl) ?_
    refine x_geti hx hb hts hinRX9 hown B 65 11 (by decide) (fun _ => rfl) rfl rfl (by decide) (by decide +kernel) rfl dX9_takesAll_56 ?_
    refine lv_aload_n hx hb dX9_takesAll_59 rfl (lv_at hl 0 rfl) ?_
    refine x_geti hx hb hts hinRX9 hown B 65 5 (by decide) (fun _ => rfl) rfl rfl (by decide) (by decide +kernel) rfl dX9_takesAll_60 ?_
    refine lv_icmp_ne (tgt := 70) hx hb dX9_takesAll_63 (by decide) (fun hc => ?_) (fun hc => ?_)
    · have hf := zif_f hc hf
      refine lv_iconst (v := (0 : Int32)) hx hb dX9_takesAll_70 (by decide) ?_
      refine W.widen (k := 0) (n := 0) (Nat.le_of_ble_eq_true rfl) (Nat.le_of_ble_eq_true rfl) ?_
      exact x_iret hx hb hr (by decide) hlocks B hf dX9_takesAll_71
    · have hf := zif_t hc hf
      refine lv_iconst (v := (1 : Int32)) hx hb dX9_takesAll_66 (by decide) ?_
      refine lv_goto (tgt := 71) hx hb dX9_takesAll_67 (by decide) ?_
      refine W.widen (k := 0) (n := 0) (Nat.le_of_ble_eq_true rfl) (Nat.le_of_ble_eq_true rfl) ?_
      exact x_iret hx hb hr (by decide) hlocks B hf dX9_takesAll_71
  have L19 : ∀ (n : Nat) (σ : zs) (H : Heap) (locs : List Loc) (ls : Array Slot), zlp0 (f_X9_takesAll_19) n σ  = some (r, σ') → xB A s G ad σ H locs → lv_has ls 1 [(0, .ref (ad 65))] → W p l e (headSpec wsX9_takesAll rm_X9_takesAll).room s m ([.ref (ad 65)] : List Value).toArray below meth c H locs 0 0 (MQ below (va_Qi (fun r' (u : xV) => r' = r ∧ xQ σ' u) (xPost G ad σ' A) A) ([.ref (ad 65)] : List Value).toArray s 0 0 A) (F0 m 19 ls []) := by
    intro n
    induction n with
    | zero =>
      intro σ  H locs ls hf
      cases hf
    | succ n ih =>
      intro σ  H locs ls hf B hl
      have hf : f_X9_takesAll_19 (zlp0 (f_X9_takesAll_19) n) σ  = some (r, σ') := hf
      unfold f_X9_takesAll_19 at hf
      refine lv_aload_n hx hb dX9_takesAll_19 rfl (lv_at hl 0 rfl) ?_
      obtain ⟨r5, σ6, hu4, hf⟩ := zb_some hf
      refine x_i B (fun nb a g hs Bz => va_runV (As := []) (rest := []) ⟨hx, hb, hml, hown, hts⟩ (c_X9_here l hu4 _ nb a g hs) (cwV 0 hts gX9_takesAll_X9_here rfl rfl rfl (by decide +kernel) ⟨Nat.le_of_ble_eq_true rfl, Nat.le_of_ble_eq_true rfl⟩) (x_preV Bz (by decide) (fun _ => rfl) rfl) rfl rfl hl.1 rfl (lv_room (Nat.le_of_ble_eq_true rfl)) dX9_takesAll_20 ⟨Nat.le_of_ble_eq_true rfl, Nat.le_of_ble_eq_true rfl⟩) (fun H locs B => ?_)
      refine lv_bipush (v := (59 : Int32)) hx hb dX9_takesAll_23 (by decide) ?_
      refine lv_icmp_ne (tgt := 55) hx hb dX9_takesAll_25 (by decide) (fun hc => ?_) (fun hc => ?_)
      · have hf := zif_f hc hf
        exact L55  _  _ _ _ hf B (lv_sub hl [0] rfl)
      · have hf := zif_t hc hf
        refine lv_aload_n hx hb dX9_takesAll_28 rfl (lv_at hl 0 rfl) ?_
        refine x_geti hx hb hts hinRX9 hown B 65 14 (by decide) (fun _ => rfl) rfl rfl (by decide) (by decide +kernel) rfl dX9_takesAll_29 ?_
        refine lv_iconst (v := (4 : Int32)) hx hb dX9_takesAll_32 (by decide) ?_
        refine lv_icmp_ge (tgt := 55) hx hb dX9_takesAll_33 (by decide) (fun hc => ?_) (fun hc => ?_)
        · have hf := zif_t hc hf
          exact L55  _  _ _ _ hf B (lv_sub hl [0] rfl)
        · have hf := zif_f hc hf
          refine lv_aload_n hx hb dX9_takesAll_36 rfl (lv_at hl 0 rfl) ?_
          refine lv_dup hx hb dX9_takesAll_37 rfl ?_
          refine x_geti hx hb hts hinRX9 hown B 65 11 (by decide) (fun _ => rfl) rfl rfl (by decide) (by decide +kernel) rfl dX9_takesAll_38 ?_
          refine lv_iconst (v := (1 : Int32)) hx hb dX9_takesAll_41 (by decide) ?_
          refine lv_iadd hx hb dX9_takesAll_42 ?_
          refine x_puti hx hb hts hinRX9 hown tyX9 tyX9_ok nmX9 B 65 11 (by decide) (by decide) (fun _ => rfl) rfl rfl (by decide) (by decide +kernel) rfl rfl rfl rfl dX9_takesAll_43 (fun H locs B => ?_)
          refine lv_aload_n hx hb dX9_takesAll_46 rfl (lv_at hl 0 rfl) ?_
          obtain ⟨r8, σ9, hu7, hf⟩ := zb_some hf
          refine x_i B (fun nb a g hs Bz => va_runV (As := []) (rest := []) ⟨hx, hb, hml, hown, hts⟩ (c_X9_takesCaveat l hu7 _ nb a g hs) (cwV 0 hts gX9_takesAll_X9_takesCaveat rfl rfl rfl (by decide +kernel) ⟨Nat.le_of_ble_eq_true rfl, Nat.le_of_ble_eq_true rfl⟩) (x_preV Bz (by decide) (fun _ => rfl) rfl) rfl rfl hl.1 rfl (lv_room (Nat.le_of_ble_eq_true rfl)) dX9_takesAll_47 ⟨Nat.le_of_ble_eq_true rfl, Nat.le_of_ble_eq_true rfl⟩) (fun H locs B => ?_)
          refine lv_if_ne (tgt := 19) hx hb dX9_takesAll_50 (by decide) (fun hc => ?_) (fun hc => ?_)
          · have hf := zif_f hc hf
            exact ih _  _ _ _ hf B (lv_sub hl [0] rfl)
          · have hf := zif_t hc hf
            refine lv_iconst (v := (0 : Int32)) hx hb dX9_takesAll_53 (by decide) ?_
            refine W.widen (k := 0) (n := 0) (Nat.le_of_ble_eq_true rfl) (Nat.le_of_ble_eq_true rfl) ?_
            exact x_iret hx hb hr (by decide) hlocks B hf dX9_takesAll_54
  unfold f_X9_takesAll at hf
  refine lv_aload_n hx hb dX9_takesAll_0 rfl (lv_at hl 0 rfl) ?_
  refine lv_iconst (v := (0 : Int32)) hx hb dX9_takesAll_1 (by decide) ?_
  refine x_puti hx hb hts hinRX9 hown tyX9 tyX9_ok nmX9 B 65 11 (by decide) (by decide) (fun _ => rfl) rfl rfl (by decide) (by decide +kernel) rfl rfl rfl rfl dX9_takesAll_2 (fun H locs B => ?_)
  refine lv_aload_n hx hb dX9_takesAll_5 rfl (lv_at hl 0 rfl) ?_
  refine lv_iconst (v := (0 : Int32)) hx hb dX9_takesAll_6 (by decide) ?_
  refine x_puti hx hb hts hinRX9 hown tyX9 tyX9_ok nmX9 B 65 14 (by decide) (by decide) (fun _ => rfl) rfl rfl (by decide) (by decide +kernel) rfl rfl rfl rfl dX9_takesAll_7 (fun H locs B => ?_)
  refine lv_aload_n hx hb dX9_takesAll_10 rfl (lv_at hl 0 rfl) ?_
  obtain ⟨r2, σ3, hu1, hf⟩ := zb_some hf
  refine x_i B (fun nb a g hs Bz => va_runV (As := []) (rest := []) ⟨hx, hb, hml, hown, hts⟩ (c_X9_takesCaveat l hu1 _ nb a g hs) (cwV 0 hts gX9_takesAll_X9_takesCaveat rfl rfl rfl (by decide +kernel) ⟨Nat.le_of_ble_eq_true rfl, Nat.le_of_ble_eq_true rfl⟩) (x_preV Bz (by decide) (fun _ => rfl) rfl) rfl rfl hl.1 rfl (lv_room (Nat.le_of_ble_eq_true rfl)) dX9_takesAll_11 ⟨Nat.le_of_ble_eq_true rfl, Nat.le_of_ble_eq_true rfl⟩) (fun H locs B => ?_)
  refine lv_if_ne (tgt := 19) hx hb dX9_takesAll_14 (by decide) (fun hc => ?_) (fun hc => ?_)
  · have hf := zif_f hc hf
    exact L19  _ _  _ _ _ hf B (lv_sub hl [0] rfl)
  · have hf := zif_t hc hf
    refine lv_iconst (v := (0 : Int32)) hx hb dX9_takesAll_17 (by decide) ?_
    refine W.widen (k := 0) (n := 0) (Nat.le_of_ble_eq_true rfl) (Nat.le_of_ble_eq_true rfl) ?_
    exact x_iret hx hb hr (by decide) hlocks B hf dX9_takesAll_18
