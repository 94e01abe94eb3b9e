theorem dX9_derive_0 : decode cX9_derive 0 = .ok (.aload_n 0, 1) := by decide +kernel
theorem dX9_derive_1 : decode cX9_derive 1 = .ok (.iload_n 1, 1) := by decide +kernel
theorem dX9_derive_2 : decode cX9_derive 2 = .ok (.invokestatic 78, 3) := by decide +kernel
theorem dX9_derive_5 : decode cX9_derive 5 = .ok (.ifCond .eq 15, 3) := by decide +kernel
theorem dX9_derive_8 : decode cX9_derive 8 = .ok (.aload_n 0, 1) := by decide +kernel
theorem dX9_derive_9 : decode cX9_derive 9 = .ok (.iload_n 2, 1) := by decide +kernel
theorem dX9_derive_10 : decode cX9_derive 10 = .ok (.invokevirtual 118, 3) := by decide +kernel
theorem dX9_derive_13 : decode cX9_derive 13 = .ok (.ifCond .eq 7, 3) := by decide +kernel
theorem dX9_derive_16 : decode cX9_derive 16 = .ok (.iconst 0, 1) := by decide +kernel
theorem dX9_derive_17 : decode cX9_derive 17 = .ok (.goto 4, 3) := by decide +kernel
theorem dX9_derive_20 : decode cX9_derive 20 = .ok (.iconst 1, 1) := by decide +kernel
theorem dX9_derive_21 : decode cX9_derive 21 = .ok (.putfield 41, 3) := by decide +kernel
theorem dX9_derive_24 : decode cX9_derive 24 = .ok (.aload_n 0, 1) := by decide +kernel
theorem dX9_derive_25 : decode cX9_derive 25 = .ok (.getfield 41, 3) := by decide +kernel
theorem dX9_derive_28 : decode cX9_derive 28 = .ok (.ifCond .eq 5, 3) := by decide +kernel
theorem dX9_derive_31 : decode cX9_derive 31 = .ok (.iconst 0, 1) := by decide +kernel
theorem dX9_derive_32 : decode cX9_derive 32 = .ok (.ireturn, 1) := by decide +kernel
theorem dX9_derive_33 : decode cX9_derive 33 = .ok (.aload_n 0, 1) := by decide +kernel
theorem dX9_derive_34 : decode cX9_derive 34 = .ok (.getfield 9, 3) := by decide +kernel
theorem dX9_derive_37 : decode cX9_derive 37 = .ok (.bipush 107, 2) := by decide +kernel
theorem dX9_derive_39 : decode cX9_derive 39 = .ok (.iload_n 2, 1) := by decide +kernel
theorem dX9_derive_40 : decode cX9_derive 40 = .ok (.iadd, 1) := by decide +kernel
theorem dX9_derive_41 : decode cX9_derive 41 = .ok (.iaload, 1) := by decide +kernel
theorem dX9_derive_42 : decode cX9_derive 42 = .ok (.iload_n 1, 1) := by decide +kernel
theorem dX9_derive_43 : decode cX9_derive 43 = .ok (.invokestatic 59, 3) := by decide +kernel
theorem dX9_derive_46 : decode cX9_derive 46 = .ok (.ifCond .ne 21, 3) := by decide +kernel
theorem dX9_derive_49 : decode cX9_derive 49 = .ok (.aload_n 0, 1) := by decide +kernel
theorem dX9_derive_50 : decode cX9_derive 50 = .ok (.iconst 0, 1) := by decide +kernel
theorem dX9_derive_51 : decode cX9_derive 51 = .ok (.putfield 92, 3) := by decide +kernel
theorem dX9_derive_54 : decode cX9_derive 54 = .ok (.aload_n 0, 1) := by decide +kernel
theorem dX9_derive_55 : decode cX9_derive 55 = .ok (.aload_n 0, 1) := by decide +kernel
theorem dX9_derive_56 : decode cX9_derive 56 = .ok (.iconst 1, 1) := by decide +kernel
theorem dX9_derive_57 : decode cX9_derive 57 = .ok (.iload_n 2, 1) := by decide +kernel
theorem dX9_derive_58 : decode cX9_derive 58 = .ok (.iconst 2, 1) := by decide +kernel
theorem dX9_derive_59 : decode cX9_derive 59 = .ok (.invokevirtual 63, 3) := by decide +kernel
theorem dX9_derive_62 : decode cX9_derive 62 = .ok (.putfield 41, 3) := by decide +kernel
theorem dX9_derive_65 : decode cX9_derive 65 = .ok (.iconst 0, 1) := by decide +kernel
theorem dX9_derive_66 : decode cX9_derive 66 = .ok (.ireturn, 1) := by decide +kernel
theorem dX9_derive_67 : decode cX9_derive 67 = .ok (.aload_n 0, 1) := by decide +kernel
theorem dX9_derive_68 : decode cX9_derive 68 = .ok (.invokevirtual 121, 3) := by decide +kernel
theorem dX9_derive_71 : decode cX9_derive 71 = .ok (.istore_n 3, 1) := by decide +kernel
theorem dX9_derive_72 : decode cX9_derive 72 = .ok (.aload_n 0, 1) := by decide +kernel
theorem dX9_derive_73 : decode cX9_derive 73 = .ok (.iconst 0, 1) := by decide +kernel
theorem dX9_derive_74 : decode cX9_derive 74 = .ok (.putfield 92, 3) := by decide +kernel
theorem dX9_derive_77 : decode cX9_derive 77 = .ok (.aload_n 0, 1) := by decide +kernel
theorem dX9_derive_78 : decode cX9_derive 78 = .ok (.iload_n 3, 1) := by decide +kernel
theorem dX9_derive_79 : decode cX9_derive 79 = .ok (.ifCond .eq 7, 3) := by decide +kernel
theorem dX9_derive_82 : decode cX9_derive 82 = .ok (.iconst (-1), 1) := by decide +kernel
theorem dX9_derive_83 : decode cX9_derive 83 = .ok (.goto 7, 3) := by decide +kernel
theorem dX9_derive_86 : decode cX9_derive 86 = .ok (.aload_n 0, 1) := by decide +kernel
theorem dX9_derive_87 : decode cX9_derive 87 = .ok (.getfield 95, 3) := by decide +kernel
theorem dX9_derive_90 : decode cX9_derive 90 = .ok (.putfield 19, 3) := by decide +kernel
theorem dX9_derive_93 : decode cX9_derive 93 = .ok (.aload_n 0, 1) := by decide +kernel
theorem dX9_derive_94 : decode cX9_derive 94 = .ok (.iload_n 3, 1) := by decide +kernel
theorem dX9_derive_95 : decode cX9_derive 95 = .ok (.ifCond .ne 7, 3) := by decide +kernel
theorem dX9_derive_98 : decode cX9_derive 98 = .ok (.iconst 3, 1) := by decide +kernel
theorem dX9_derive_99 : decode cX9_derive 99 = .ok (.goto 29, 3) := by decide +kernel
theorem dX9_derive_102 : decode cX9_derive 102 = .ok (.aload_n 0, 1) := by decide +kernel
theorem dX9_derive_103 : decode cX9_derive 103 = .ok (.getfield 9, 3) := by decide +kernel
theorem dX9_derive_106 : decode cX9_derive 106 = .ok (.iconst 1, 1) := by decide +kernel
theorem dX9_derive_107 : decode cX9_derive 107 = .ok (.iaload, 1) := by decide +kernel
theorem dX9_derive_108 : decode cX9_derive 108 = .ok (.bipush 28, 2) := by decide +kernel
theorem dX9_derive_110 : decode cX9_derive 110 = .ok (.if_icmp .eq 13, 3) := by decide +kernel
theorem dX9_derive_113 : decode cX9_derive 113 = .ok (.aload_n 0, 1) := by decide +kernel
theorem dX9_derive_114 : decode cX9_derive 114 = .ok (.iload_n 2, 1) := by decide +kernel
theorem dX9_derive_115 : decode cX9_derive 115 = .ok (.invokevirtual 66, 3) := by decide +kernel
theorem dX9_derive_118 : decode cX9_derive 118 = .ok (.bipush 7, 2) := by decide +kernel
theorem dX9_derive_120 : decode cX9_derive 120 = .ok (.if_icmp .ne 7, 3) := by decide +kernel
theorem dX9_derive_123 : decode cX9_derive 123 = .ok (.iconst 4, 1) := by decide +kernel
theorem dX9_derive_124 : decode cX9_derive 124 = .ok (.goto 4, 3) := by decide +kernel
theorem dX9_derive_127 : decode cX9_derive 127 = .ok (.iconst 0, 1) := by decide +kernel
theorem dX9_derive_128 : decode cX9_derive 128 = .ok (.putfield 41, 3) := by decide +kernel
theorem dX9_derive_131 : decode cX9_derive 131 = .ok (.aload_n 0, 1) := by decide +kernel
theorem dX9_derive_132 : decode cX9_derive 132 = .ok (.getfield 41, 3) := by decide +kernel
theorem dX9_derive_135 : decode cX9_derive 135 = .ok (.ifCond .eq 5, 3) := by decide +kernel
theorem dX9_derive_138 : decode cX9_derive 138 = .ok (.iconst 0, 1) := by decide +kernel
theorem dX9_derive_139 : decode cX9_derive 139 = .ok (.ireturn, 1) := by decide +kernel
theorem dX9_derive_140 : decode cX9_derive 140 = .ok (.aload_n 0, 1) := by decide +kernel
theorem dX9_derive_141 : decode cX9_derive 141 = .ok (.iload_n 1, 1) := by decide +kernel
theorem dX9_derive_142 : decode cX9_derive 142 = .ok (.aload_n 0, 1) := by decide +kernel
theorem dX9_derive_143 : decode cX9_derive 143 = .ok (.getfield 9, 3) := by decide +kernel
theorem dX9_derive_146 : decode cX9_derive 146 = .ok (.bipush 51, 2) := by decide +kernel
theorem dX9_derive_148 : decode cX9_derive 148 = .ok (.iload_n 2, 1) := by decide +kernel
theorem dX9_derive_149 : decode cX9_derive 149 = .ok (.iadd, 1) := by decide +kernel
theorem dX9_derive_150 : decode cX9_derive 150 = .ok (.iaload, 1) := by decide +kernel
theorem dX9_derive_151 : decode cX9_derive 151 = .ok (.iload_n 2, 1) := by decide +kernel
theorem dX9_derive_152 : decode cX9_derive 152 = .ok (.invokevirtual 85, 3) := by decide +kernel
theorem dX9_derive_155 : decode cX9_derive 155 = .ok (.istore 4, 2) := by decide +kernel
theorem dX9_derive_157 : decode cX9_derive 157 = .ok (.iconst 0, 1) := by decide +kernel
theorem dX9_derive_158 : decode cX9_derive 158 = .ok (.istore 5, 2) := by decide +kernel
theorem dX9_derive_160 : decode cX9_derive 160 = .ok (.iload 5, 2) := by decide +kernel
theorem dX9_derive_162 : decode cX9_derive 162 = .ok (.aload_n 0, 1) := by decide +kernel
theorem dX9_derive_163 : decode cX9_derive 163 = .ok (.getfield 111, 3) := by decide +kernel
theorem dX9_derive_166 : decode cX9_derive 166 = .ok (.if_icmp .ge 46, 3) := by decide +kernel
theorem dX9_derive_169 : decode cX9_derive 169 = .ok (.aload_n 0, 1) := by decide +kernel
theorem dX9_derive_170 : decode cX9_derive 170 = .ok (.iload 4, 2) := by decide +kernel
theorem dX9_derive_172 : decode cX9_derive 172 = .ok (.aload_n 0, 1) := by decide +kernel
theorem dX9_derive_173 : decode cX9_derive 173 = .ok (.getfield 32, 3) := by decide +kernel
theorem dX9_derive_176 : decode cX9_derive 176 = .ok (.iconst 3, 1) := by decide +kernel
theorem dX9_derive_177 : decode cX9_derive 177 = .ok (.iload 5, 2) := by decide +kernel
theorem dX9_derive_179 : decode cX9_derive 179 = .ok (.imul, 1) := by decide +kernel
theorem dX9_derive_180 : decode cX9_derive 180 = .ok (.iaload, 1) := by decide +kernel
theorem dX9_derive_181 : decode cX9_derive 181 = .ok (.aload_n 0, 1) := by decide +kernel
theorem dX9_derive_182 : decode cX9_derive 182 = .ok (.getfield 32, 3) := by decide +kernel
theorem dX9_derive_185 : decode cX9_derive 185 = .ok (.iconst 3, 1) := by decide +kernel
theorem dX9_derive_186 : decode cX9_derive 186 = .ok (.iload 5, 2) := by decide +kernel
theorem dX9_derive_188 : decode cX9_derive 188 = .ok (.imul, 1) := by decide +kernel
theorem dX9_derive_189 : decode cX9_derive 189 = .ok (.iconst 1, 1) := by decide +kernel
theorem dX9_derive_190 : decode cX9_derive 190 = .ok (.iadd, 1) := by decide +kernel
theorem dX9_derive_191 : decode cX9_derive 191 = .ok (.iaload, 1) := by decide +kernel
theorem dX9_derive_192 : decode cX9_derive 192 = .ok (.aload_n 0, 1) := by decide +kernel
theorem dX9_derive_193 : decode cX9_derive 193 = .ok (.getfield 32, 3) := by decide +kernel
theorem dX9_derive_196 : decode cX9_derive 196 = .ok (.iconst 3, 1) := by decide +kernel
theorem dX9_derive_197 : decode cX9_derive 197 = .ok (.iload 5, 2) := by decide +kernel
theorem dX9_derive_199 : decode cX9_derive 199 = .ok (.imul, 1) := by decide +kernel
theorem dX9_derive_200 : decode cX9_derive 200 = .ok (.iconst 2, 1) := by decide +kernel
theorem dX9_derive_201 : decode cX9_derive 201 = .ok (.iadd, 1) := by decide +kernel
theorem dX9_derive_202 : decode cX9_derive 202 = .ok (.iaload, 1) := by decide +kernel
theorem dX9_derive_203 : decode cX9_derive 203 = .ok (.invokevirtual 88, 3) := by decide +kernel
theorem dX9_derive_206 : decode cX9_derive 206 = .ok (.iinc 5 1, 3) := by decide +kernel
theorem dX9_derive_209 : decode cX9_derive 209 = .ok (.goto (-49), 3) := by decide +kernel
theorem dX9_derive_212 : decode cX9_derive 212 = .ok (.iload 4, 2) := by decide +kernel
theorem dX9_derive_214 : decode cX9_derive 214 = .ok (.ireturn, 1) := by decide +kernel
set_option maxRecDepth 20000 in
theorem ggX9_derive_X9_isSubject : GoodIn wsX9_derive wsX9_isSubject := goodIn_r _ [11, 12, 13, 10, 14] (by decide +kernel) (by decide +kernel)
set_option maxRecDepth 20000 in
theorem gX9_derive_X9_isSubject : GoodIn wsX9_derive (va_wsS RX9 78 yX9_isSubject wsX9_isSubject) := goodIn_app (goodIn_of _ (by decide +kernel)) ggX9_derive_X9_isSubject
set_option maxRecDepth 20000 in
theorem ggX9_derive_X9_has : GoodIn wsX9_derive wsX9_has := goodIn_r _ [21] (by decide +kernel) (by decide +kernel)
set_option maxRecDepth 20000 in
theorem gX9_derive_X9_has : GoodIn wsX9_derive (va_wsS RX9 59 yX9_has wsX9_has) := goodIn_app (goodIn_of _ (by decide +kernel)) ggX9_derive_X9_has
set_option maxRecDepth 20000 in
theorem ggX9_derive_X9_takesAll : GoodIn wsX9_derive wsX9_takesAll := goodIn_ca (goodIn_r _ [36, 4, 6, 3, 37, 38, 39, 10, 40, 7, 41, 42, 43, 44, 45, 46, 47, 48, 49, 50, 51, 52, 53, 12, 13, 14, 67, 68, 69, 70, 71, 72, 73, 74, 75, 76, 77, 78, 79, 80, 81, 82, 83, 84, 85, 86] (by decide +kernel) (by decide +kernel)) (goodIn_sub (fun _ h => List.mem_cons_of_mem _ (List.mem_append_right _ h)) (by decide +kernel))
set_option maxRecDepth 20000 in
theorem gX9_derive_X9_takesAll : GoodIn wsX9_derive (wsV RX9 121 RX9 yX9_takesAll wsX9_takesAll) := goodIn_app (goodIn_of _ (by decide +kernel)) ggX9_derive_X9_takesAll
set_option maxRecDepth 20000 in
theorem ggX9_derive_X9_makes : GoodIn wsX9_derive wsX9_makes := goodIn_ca (goodIn_r _ [62, 2, 67, 68, 69, 70, 71, 72, 73, 74, 75, 76, 77, 78, 79, 80, 81, 82, 83, 84, 85, 86] (by decide +kernel) (by decide +kernel)) (goodIn_sub (fun _ h => List.mem_cons_of_mem _ (List.mem_append_right _ h)) (by decide +kernel))
set_option maxRecDepth 20000 in
theorem gX9_derive_X9_makes : GoodIn wsX9_derive (wsV RX9 85 RX9 yX9_makes wsX9_makes) := goodIn_app (goodIn_of _ (by decide +kernel)) ggX9_derive_X9_makes
set_option maxRecDepth 20000 in
theorem ggX9_derive_X9_adds : GoodIn wsX9_derive wsX9_adds := goodIn_ca (goodIn_r _ [66, 2, 67, 68, 69, 70, 71, 72, 73, 74, 75, 76, 77, 78, 79, 80, 81, 82, 83, 84, 85, 86] (by decide +kernel) (by decide +kernel)) (goodIn_sub (fun _ h => List.mem_cons_of_mem _ (List.mem_append_right _ h)) (by decide +kernel))
set_option maxRecDepth 20000 in
theorem gX9_derive_X9_adds : GoodIn wsX9_derive (wsV RX9 88 RX9 yX9_adds wsX9_adds) := goodIn_app (goodIn_of _ (by decide +kernel)) ggX9_derive_X9_adds
set_option maxRecDepth 20000 in
theorem ggX9_derive_X9_chainOf : GoodIn wsX9_derive wsX9_chainOf := goodIn_ca (goodIn_r _ [57, 2, 58, 67, 68, 69, 70, 71, 72, 73, 74, 75, 76, 77, 78, 79, 80, 81, 82, 83, 84, 85, 86] (by decide +kernel) (by decide +kernel)) (goodIn_sub (fun _ h => List.mem_cons_of_mem _ (List.mem_append_right _ h)) (by decide +kernel))
set_option maxRecDepth 20000 in
theorem gX9_derive_X9_chainOf : GoodIn wsX9_derive (wsV RX9 66 RX9 yX9_chainOf wsX9_chainOf) := goodIn_app (goodIn_of _ (by decide +kernel)) ggX9_derive_X9_chainOf
set_option maxRecDepth 20000 in
theorem ggX9_derive_X9_reports : GoodIn wsX9_derive wsX9_reports := goodIn_ca (goodIn_r _ [25, 26, 27, 28, 29, 10, 30, 31, 32, 67, 68, 69, 70, 71, 72, 73, 74, 75, 76, 77, 78, 79, 80, 81, 82, 83, 84, 85, 86] (by decide +kernel) (by decide +kernel)) (goodIn_sub (fun _ h => List.mem_cons_of_mem _ (List.mem_append_right _ h)) (by decide +kernel))
set_option maxRecDepth 20000 in
theorem gX9_derive_X9_reports : GoodIn wsX9_derive (wsV RX9 63 RX9 yX9_reports wsX9_reports) := goodIn_app (goodIn_of _ (by decide +kernel)) ggX9_derive_X9_reports
set_option maxRecDepth 20000 in
theorem ggX9_derive_X9_isToken : GoodIn wsX9_derive wsX9_isToken := goodIn_ca (goodIn_r _ [18, 2, 12, 13, 10, 14, 67, 68, 69, 70, 71, 72, 73, 74, 75, 76, 77, 78, 79, 80, 81, 82, 83, 84, 85, 86] (by decide +kernel) (by decide +kernel)) (goodIn_sub (fun _ h => List.mem_cons_of_mem _ (List.mem_append_right _ h)) (by decide +kernel))
set_option maxRecDepth 20000 in
theorem gX9_derive_X9_isToken : GoodIn wsX9_derive (wsV RX9 118 RX9 yX9_isToken wsX9_isToken) := goodIn_app (goodIn_of _ (by decide +kernel)) ggX9_derive_X9_isToken
def rm_X9_derive : Room := { frames := 5, cells := 0, slots := 0, locals := 103 }
set_option maxHeartbeats 4000000 in
set_option maxRecDepth 100000 in
theorem c_X9_derive (l : Launch) {G : zG} {ad : Nat → Nat} {σ σ' : zs} {a1 a2 : Int32} {r : Int32} (hf : f_X9_derive σ a1 a2 = some (r, σ')) : xMi l yX9_derive wsX9_derive rm_X9_derive G ad σ [.ref (ad 65), .int a1, .int a2] r σ' := by
  intro sz nb a g hs
  refine Met.ofW (cc := cX9_derive) (maxL := 6) (ret := (some .int)) (by decide) rfl ?_
  intro p e s m args below meth c s₁ B hml hv
  obtain ⟨rfl, hsz, hv⟩ := hv
  have hx := B.exec
  have hb := B.bytes
  have hr := B.returns
  have hts := atoms_spec (ws := wsX9_derive) B.pre
  have hown : s.vm.findClass RX9 = some m.cls := findClass_of_methodNamed B.named
  have hlocks := B.notSynchronized
  subst hsz
  have B := xB_start hs hv
  have hinRX9 : ∀ w ∈ wsX90, w ∈ wsX9_derive := by decide +kernel
  have hl := lv_entry ([.ref (ad 65), .int a1, .int a2]) (n := 6) (Nat.le_of_ble_eq_true rfl)
  rw [lg_entry_eq]
  generalize (lg_sl ([.ref (ad 65), .int a1, .int a2]) ++ List.replicate (6 - (lg_sl ([.ref (ad 65), .int a1, .int a2])).length) Slot.unset).toArray = ls at hl ⊢
  have hl : lv_has ls 6 [(0, .ref (ad 65)), (1, .int a1), (2, .int a2)] := hl
  generalize hAe : xA ad a s.heap.size = A at B ⊢
  have L160 : ∀ (n : Nat) (σ : zs) (v4 : Int32) (v5 : Int32) (H : Heap) (locs : List Loc) (ls : Array Slot), zlp2 (f_X9_derive_160) n σ v4 v5 = some (r, σ') → xB A s G ad σ H locs → lv_has ls 6 [(0, .ref (ad 65)), (4, .int v4), (5, .int v5)] → W p l e (headSpec wsX9_derive rm_X9_derive).room s m ([.ref (ad 65), .int a1, .int a2] : List Value).toArray below meth c H locs 0 0 (MQ below (va_Qi (fun r' (u : xV) => r' = r ∧ xQ σ' u) (xPost G ad σ' A) A) ([.ref (ad 65), .int a1, .int a2] : List Value).toArray s 0 0 A) (F0 m 160 ls []) := by
    intro n
    induction n with
    | zero =>
      intro σ v4 v5 H locs ls hf
      cases hf
    | succ n ih =>
      intro σ v4 v5 H locs ls hf B hl
      have hf : f_X9_derive_160 (zlp2 (f_X9_derive_160) n) σ v4 v5 = some (r, σ') := hf
      unfold f_X9_derive_160 at hf
      refine lv_iload hx hb dX9_derive_160 (lv_at hl 2 rfl) ?_
      refine lv_aload_n hx hb dX9_derive_162 rfl (lv_at hl 0 rfl) ?_
      refine x_geti hx hb hts hinRX9 hown B 65 14 (by decide) (fun _ => rfl) rfl rfl (by decide) (by decide +kernel) rfl dX9_derive_163 ?_
      refine lv_icmp_ge (tgt := 212) hx hb dX9_derive_166 (by decide) (fun hc => ?_) (fun hc => ?_)
      · have hf := zif_t hc hf
        refine lv_iload hx hb dX9_derive_212 (lv_at hl 1 rfl) ?_
        refine W.widen (k := 0) (n := 0) (Nat.le_of_ble_eq_true rfl) (Nat.le_of_ble_eq_true rfl) ?_
        exact x_iret hx hb hr rfl hlocks B hf dX9_derive_214
      · have hf := zif_f hc hf
        refine lv_aload_n hx hb dX9_derive_169 rfl (lv_at hl 0 rfl) ?_
        refine lv_iload hx hb dX9_derive_170 (lv_at hl 1 rfl) ?_
        refine lv_aload_n hx hb dX9_derive_172 rfl (lv_at hl 0 rfl) ?_
        refine x_getr hx hb hts hinRX9 hown B 65 13 72 (by decide) (by decide) (fun _ => rfl) rfl rfl (by decide) (by decide +kernel) rfl dX9_derive_173 ?_
        refine lv_iconst (v := (3 : Int32)) hx hb dX9_derive_176 (by decide) ?_
        refine lv_iload hx hb dX9_derive_177 (lv_at hl 2 rfl) ?_
        refine lv_imul hx hb dX9_derive_179 ?_
        obtain ⟨hg, hf⟩ := zg_some hf
        refine x_iald hx hb B 72 (by decide) (fun _ => rfl) (zin_ok hg) dX9_derive_180 ?_
        refine lv_aload_n hx hb dX9_derive_181 rfl (lv_at hl 0 rfl) ?_
        refine x_getr hx hb hts hinRX9 hown B 65 13 72 (by decide) (by decide) (fun _ => rfl) rfl rfl (by decide) (by decide +kernel) rfl dX9_derive_182 ?_
        refine lv_iconst (v := (3 : Int32)) hx hb dX9_derive_185 (by decide) ?_
        refine lv_iload hx hb dX9_derive_186 (lv_at hl 2 rfl) ?_
        refine lv_imul hx hb dX9_derive_188 ?_
        refine lv_iconst (v := (1 : Int32)) hx hb dX9_derive_189 (by decide) ?_
        refine lv_iadd hx hb dX9_derive_190 ?_
        obtain ⟨hg, hf⟩ := zg_some hf
        refine x_iald hx hb B 72 (by decide) (fun _ => rfl) (zin_ok hg) dX9_derive_191 ?_
        refine lv_aload_n hx hb dX9_derive_192 rfl (lv_at hl 0 rfl) ?_
        refine x_getr hx hb hts hinRX9 hown B 65 13 72 (by decide) (by decide) (fun _ => rfl) rfl rfl (by decide) (by decide +kernel) rfl dX9_derive_193 ?_
        refine lv_iconst (v := (3 : Int32)) hx hb dX9_derive_196 (by decide) ?_
        refine lv_iload hx hb dX9_derive_197 (lv_at hl 2 rfl) ?_
        refine lv_imul hx hb dX9_derive_199 ?_
        refine lv_iconst (v := (2 : Int32)) hx hb dX9_derive_200 (by decide) ?_
        refine lv_iadd hx hb dX9_derive_201 ?_
        obtain ⟨hg, hf⟩ := zg_some hf
        refine x_iald hx hb B 72 (by decide) (fun _ => rfl) (zin_ok hg) dX9_derive_202 ?_
        obtain ⟨r14, σ15, hu13, hf⟩ := zb_some hf
        refine x_v B (fun nb a g hs Bz => va_runV (As := [.int v4, .int (σ 72 ((3 : Int32) * v5).toNatClampNeg), .int (σ 72 (((3 : Int32) * v5) + (1 : Int32)).toNatClampNeg), .int (σ 72 (((3 : Int32) * v5) + (2 : Int32)).toNatClampNeg)]) (rest := []) ⟨hx, hb, hml, hown, hts⟩ (c_X9_adds l hu13 _ nb a g hs) (cwV 4 hts gX9_derive_X9_adds rfl rfl rfl (by decide +kernel) ⟨Nat.le_of_ble_eq_true rfl, Nat.le_of_ble_eq_true rfl⟩) (x_preV Bz (by decide) (fun _ => rfl) rfl) rfl rfl hl.1 rfl (lv_room (Nat.le_of_ble_eq_true rfl)) dX9_derive_203 ⟨Nat.le_of_ble_eq_true rfl, Nat.le_of_ble_eq_true rfl⟩) (fun H locs B => ?_)
        refine lv_iinc (v := (v5 + (1 : Int32))) (lv' := [(5, .int (v5 + (1 : Int32))), (0, .ref (ad 65)), (4, .int v4)]) hx hb dX9_derive_206 hl (k := 2) rfl (zc1 (by decide)) (by decide) rfl (fun ls hl => ?_)
        refine lv_goto (tgt := 160) hx hb dX9_derive_209 (by decide) ?_
        exact ih _ _ _ _ _ _ hf B (lv_sub hl [1, 2, 0] rfl)
  have L128 : ∀ (σ : zs) (v1 : Int32) (v2 : Int32) (s0 : Int32) (H : Heap) (locs : List Loc) (ls : Array Slot), f_X9_derive_128 σ v1 v2 s0 = some (r, σ') → xB A s G ad σ H locs → lv_has ls 6 [(0, .ref (ad 65)), (1, .int v1), (2, .int v2)] → W p l e (headSpec wsX9_derive rm_X9_derive).room s m ([.ref (ad 65), .int a1, .int a2] : List Value).toArray below meth c H locs 0 0 (MQ below (va_Qi (fun r' (u : xV) => r' = r ∧ xQ σ' u) (xPost G ad σ' A) A) ([.ref (ad 65), .int a1, .int a2] : List Value).toArray s 0 0 A) (F0 m 128 ls [.int s0, .ref (ad 65)]) := by
    intro σ v1 v2 s0 H locs ls hf B hl
    unfold f_X9_derive_128 at hf
    refine x_puti hx hb hts hinRX9 hown tyX9 tyX9_ok nmX9 B 65 3 (by decide) (by decide) (fun _ => rfl) rfl rfl (by decide) (by decide +kernel) rfl rfl rfl rfl dX9_derive_128 (fun H locs B => ?_)
    refine lv_aload_n hx hb dX9_derive_131 rfl (lv_at hl 0 rfl) ?_
    refine x_geti hx hb hts hinRX9 hown B 65 3 (by decide) (fun _ => rfl) rfl rfl (by decide) (by decide +kernel) rfl dX9_derive_132 ?_
    refine lv_if_eq (tgt := 140) hx hb dX9_derive_135 (by decide) (fun hc => ?_) (fun hc => ?_)
    · have hf := zif_t hc hf
      refine lv_aload_n hx hb dX9_derive_140 rfl (lv_at hl 0 rfl) ?_
      refine lv_iload_n hx hb dX9_derive_141 rfl (lv_at hl 1 rfl) ?_
      refine lv_aload_n hx hb dX9_derive_142 rfl (lv_at hl 0 rfl) ?_
      refine x_getr hx hb hts hinRX9 hown B 65 0 66 (by decide) (by decide) (fun _ => rfl) rfl rfl (by decide) (by decide +kernel) rfl dX9_derive_143 ?_
      refine lv_bipush (v := (51 : Int32)) hx hb dX9_derive_146 (by decide) ?_
      refine lv_iload_n hx hb dX9_derive_148 rfl (lv_at hl 2 rfl) ?_
      refine lv_iadd hx hb dX9_derive_149 ?_
      obtain ⟨hg, hf⟩ := zg_some hf
      refine x_iald hx hb B 66 (by decide) (fun _ => rfl) (zin_ok hg) dX9_derive_150 ?_
      refine lv_iload_n hx hb dX9_derive_151 rfl (lv_at hl 2 rfl) ?_
      obtain ⟨r11, σ12, hu10, hf⟩ := zb_some hf
      refine x_i B (fun nb a g hs Bz => va_runV (As := [.int v1, .int ((zp σ 65 3 s0) 66 ((51 : Int32) + v2).toNatClampNeg), .int v2]) (rest := []) ⟨hx, hb, hml, hown, hts⟩ (c_X9_makes l hu10 _ nb a g hs) (cwV 3 hts gX9_derive_X9_makes rfl rfl rfl (by decide +kernel) ⟨Nat.le_of_ble_eq_true rfl, Nat.le_of_ble_eq_true rfl⟩) (x_preV Bz (by decide) (fun _ => rfl) rfl) rfl rfl hl.1 rfl (lv_room (Nat.le_of_ble_eq_true rfl)) dX9_derive_152 ⟨Nat.le_of_ble_eq_true rfl, Nat.le_of_ble_eq_true rfl⟩) (fun H locs B => ?_)
      refine lv_istore (lv' := [(4, .int r11), (0, .ref (ad 65)), (1, .int v1), (2, .int v2)]) hx hb dX9_derive_155 hl (by decide) rfl (fun ls hl => ?_)
      refine lv_iconst (v := (0 : Int32)) hx hb dX9_derive_157 (by decide) ?_
      refine lv_istore (lv' := [(5, .int (0 : Int32)), (4, .int r11), (0, .ref (ad 65)), (1, .int v1), (2, .int v2)]) hx hb dX9_derive_158 hl (by decide) rfl (fun ls hl => ?_)
      exact L160  _ _ _ _ _ _ _ hf B (lv_sub hl [2, 1, 0] rfl)
    · have hf := zif_f hc hf
      refine lv_iconst (v := (0 : Int32)) hx hb dX9_derive_138 (by decide) ?_
      refine W.widen (k := 0) (n := 0) (Nat.le_of_ble_eq_true rfl) (Nat.le_of_ble_eq_true rfl) ?_
      exact x_iret hx hb hr rfl hlocks B hf dX9_derive_139
  have L90 : ∀ (σ : zs) (v1 : Int32) (v2 : Int32) (v3 : Int32) (s0 : Int32) (H : Heap) (locs : List Loc) (ls : Array Slot), f_X9_derive_90 σ v1 v2 v3 s0 = some (r, σ') → xB A s G ad σ H locs → lv_has ls 6 [(0, .ref (ad 65)), (1, .int v1), (2, .int v2), (3, .int v3)] → W p l e (headSpec wsX9_derive rm_X9_derive).room s m ([.ref (ad 65), .int a1, .int a2] : List Value).toArray below meth c H locs 0 0 (MQ below (va_Qi (fun r' (u : xV) => r' = r ∧ xQ σ' u) (xPost G ad σ' A) A) ([.ref (ad 65), .int a1, .int a2] : List Value).toArray s 0 0 A) (F0 m 90 ls [.int s0, .ref (ad 65)]) := by
    intro σ v1 v2 v3 s0 H locs ls hf B hl
    unfold f_X9_derive_90 at hf
    refine x_puti hx hb hts hinRX9 hown tyX9 tyX9_ok nmX9 B 65 6 (by decide) (by decide) (fun _ => rfl) rfl rfl (by decide) (by decide +kernel) rfl rfl rfl rfl dX9_derive_90 (fun H locs B => ?_)
    refine lv_aload_n hx hb dX9_derive_93 rfl (lv_at hl 0 rfl) ?_
    refine lv_iload_n hx hb dX9_derive_94 rfl (lv_at hl 3 rfl) ?_
    refine lv_if_ne (tgt := 102) hx hb dX9_derive_95 (by decide) (fun hc => ?_) (fun hc => ?_)
    · have hf := zif_f hc hf
      refine lv_aload_n hx hb dX9_derive_102 rfl (lv_at hl 0 rfl) ?_
      refine x_getr hx hb hts hinRX9 hown B 65 0 66 (by decide) (by decide) (fun _ => rfl) rfl rfl (by decide) (by decide +kernel) rfl dX9_derive_103 ?_
      refine lv_iconst (v := (1 : Int32)) hx hb dX9_derive_106 (by decide) ?_
      obtain ⟨hg, hf⟩ := zg_some hf
      refine x_iald hx hb B 66 (by decide) (fun _ => rfl) (zin_ok hg) dX9_derive_107 ?_
      refine lv_bipush (v := (28 : Int32)) hx hb dX9_derive_108 (by decide) ?_
      refine lv_icmp_eq (tgt := 123) hx hb dX9_derive_110 (by decide) (fun hc => ?_) (fun hc => ?_)
      · have hf := zif_t hc hf
        refine lv_iconst (v := (4 : Int32)) hx hb dX9_derive_123 (by decide) ?_
        refine lv_goto (tgt := 128) hx hb dX9_derive_124 (by decide) ?_
        exact L128  _ _ _ _ _ _ _ hf B (lv_sub hl [0, 1, 2] rfl)
      · have hf := zif_f hc hf
        refine lv_aload_n hx hb dX9_derive_113 rfl (lv_at hl 0 rfl) ?_
        refine lv_iload_n hx hb dX9_derive_114 rfl (lv_at hl 2 rfl) ?_
        obtain ⟨r17, σ18, hu16, hf⟩ := zb_some hf
        refine x_i B (fun nb a g hs Bz => va_runV (As := [.int v2]) (rest := [.ref (ad 65)]) ⟨hx, hb, hml, hown, hts⟩ (c_X9_chainOf l hu16 _ nb a g hs) (cwV 1 hts gX9_derive_X9_chainOf rfl rfl rfl (by decide +kernel) ⟨Nat.le_of_ble_eq_true rfl, Nat.le_of_ble_eq_true rfl⟩) (x_preV Bz (by decide) (fun _ => rfl) rfl) rfl rfl hl.1 rfl (lv_room (Nat.le_of_ble_eq_true rfl)) dX9_derive_115 ⟨Nat.le_of_ble_eq_true rfl, Nat.le_of_ble_eq_true rfl⟩) (fun H locs B => ?_)
        refine lv_bipush (v := (7 : Int32)) hx hb dX9_derive_118 (by decide) ?_
        refine lv_icmp_ne (tgt := 127) hx hb dX9_derive_120 (by decide) (fun hc => ?_) (fun hc => ?_)
        · have hf := zif_f hc hf
          refine lv_iconst (v := (0 : Int32)) hx hb dX9_derive_127 (by decide) ?_
          exact L128  _ _ _ _ _ _ _ hf B (lv_sub hl [0, 1, 2] rfl)
        · have hf := zif_t hc hf
          refine lv_iconst (v := (4 : Int32)) hx hb dX9_derive_123 (by decide) ?_
          refine lv_goto (tgt := 128) hx hb dX9_derive_124 (by decide) ?_
          exact L128  _ _ _ _ _ _ _ hf B (lv_sub hl [0, 1, 2] rfl)
    · have hf := zif_t hc hf
      refine lv_iconst (v := (3 : Int32)) hx hb dX9_derive_98 (by decide) ?_
      refine lv_goto (tgt := 128) hx hb dX9_derive_99 (by decide) ?_
      exact L128  _ _ _ _ _ _ _ hf B (lv_sub hl [0, 1, 2] rfl)
  have L21 : ∀ (σ : zs) (v1 : Int32) (v2 : Int32) (s0 : Int32) (H : Heap) (locs : List Loc) (ls : Array Slot), f_X9_derive_21 σ v1 v2 s0 = some (r, σ') → xB A s G ad σ H locs → lv_has ls 6 [(0, .ref (ad 65)), (1, .int v1), (2, .int v2)] → W p l e (headSpec wsX9_derive rm_X9_derive).room s m ([.ref (ad 65), .int a1, .int a2] : List Value).toArray below meth c H locs 0 0 (MQ below (va_Qi (fun r' (u : xV) => r' = r ∧ xQ σ' u) (xPost G ad σ' A) A) ([.ref (ad 65), .int a1, .int a2] : List Value).toArray s 0 0 A) (F0 m 21 ls [.int s0, .ref (ad 65)]) := by
    intro σ v1 v2 s0 H locs ls hf B hl
    unfold f_X9_derive_21 at hf
    refine x_puti hx hb hts hinRX9 hown tyX9 tyX9_ok nmX9 B 65 3 (by decide) (by decide) (fun _ => rfl) rfl rfl (by decide) (by decide +kernel) rfl rfl rfl rfl dX9_derive_21 (fun H locs B => ?_)
    refine lv_aload_n hx hb dX9_derive_24 rfl (lv_at hl 0 rfl) ?_
    refine x_geti hx hb hts hinRX9 hown B 65 3 (by decide) (fun _ => rfl) rfl rfl (by decide) (by decide +kernel) rfl dX9_derive_25 ?_
    refine lv_if_eq (tgt := 33) hx hb dX9_derive_28 (by decide) (fun hc => ?_) (fun hc => ?_)
    · have hf := zif_t hc hf
      refine lv_aload_n hx hb dX9_derive_33 rfl (lv_at hl 0 rfl) ?_
      refine x_getr hx hb hts hinRX9 hown B 65 0 66 (by decide) (by decide) (fun _ => rfl) rfl rfl (by decide) (by decide +kernel) rfl dX9_derive_34 ?_
      refine lv_bipush (v := (107 : Int32)) hx hb dX9_derive_37 (by decide) ?_
      refine lv_iload_n hx hb dX9_derive_39 rfl (lv_at hl 2 rfl) ?_
      refine lv_iadd hx hb dX9_derive_40 ?_
      obtain ⟨hg, hf⟩ := zg_some hf
      refine x_iald hx hb B 66 (by decide) (fun _ => rfl) (zin_ok hg) dX9_derive_41 ?_
      refine lv_iload_n hx hb dX9_derive_42 rfl (lv_at hl 1 rfl) ?_
      obtain ⟨r5, σ6, hu4, hf⟩ := zb_some hf
      refine x_i B (fun nb a g hs Bz => va_runS (As := [.int ((zp σ 65 3 s0) 66 ((107 : Int32) + v2).toNatClampNeg), .int v1]) (rest := []) ⟨hx, hb, hml, hown, hts⟩ (c_X9_has l hu4 _ nb a g hs) (va_cwS 2 hts gX9_derive_X9_has rfl rfl rfl (by decide +kernel) ⟨Nat.le_of_ble_eq_true rfl, Nat.le_of_ble_eq_true rfl⟩) (z_preS Bz) rfl rfl hl.1 rfl (lv_room (Nat.le_of_ble_eq_true rfl)) dX9_derive_43 ⟨Nat.le_of_ble_eq_true rfl, Nat.le_of_ble_eq_true rfl⟩) (fun H locs B => ?_)
      refine lv_if_ne (tgt := 67) hx hb dX9_derive_46 (by decide) (fun hc => ?_) (fun hc => ?_)
      · have hf := zif_f hc hf
        refine lv_aload_n hx hb dX9_derive_67 rfl (lv_at hl 0 rfl) ?_
        obtain ⟨r8, σ9, hu7, hf⟩ := zb_some hf
        refine x_i B (fun nb a g hs Bz => va_runV (As := []) (rest := []) ⟨hx, hb, hml, hown, hts⟩ (c_X9_takesAll l hu7 _ nb a g hs) (cwV 0 hts gX9_derive_X9_takesAll rfl rfl rfl (by decide +kernel) ⟨Nat.le_of_ble_eq_true rfl, Nat.le_of_ble_eq_true rfl⟩) (x_preV Bz (by decide) (fun _ => rfl) rfl) rfl rfl hl.1 rfl (lv_room (Nat.le_of_ble_eq_true rfl)) dX9_derive_68 ⟨Nat.le_of_ble_eq_true rfl, Nat.le_of_ble_eq_true rfl⟩) (fun H locs B => ?_)
        refine lv_istore_n (lv' := [(3, .int r8), (0, .ref (ad 65)), (1, .int v1), (2, .int v2)]) hx hb dX9_derive_71 rfl hl (by decide) rfl (fun ls hl => ?_)
        refine lv_aload_n hx hb dX9_derive_72 rfl (lv_at hl 1 rfl) ?_
        refine lv_iconst (v := (0 : Int32)) hx hb dX9_derive_73 (by decide) ?_
        refine x_puti hx hb hts hinRX9 hown tyX9 tyX9_ok nmX9 B 65 5 (by decide) (by decide) (fun _ => rfl) rfl rfl (by decide) (by decide +kernel) rfl rfl rfl rfl dX9_derive_74 (fun H locs B => ?_)
        refine lv_aload_n hx hb dX9_derive_77 rfl (lv_at hl 1 rfl) ?_
        refine lv_iload_n hx hb dX9_derive_78 rfl (lv_at hl 0 rfl) ?_
        refine lv_if_eq (tgt := 86) hx hb dX9_derive_79 (by decide) (fun hc => ?_) (fun hc => ?_)
        · have hf := zif_t hc hf
          refine lv_aload_n hx hb dX9_derive_86 rfl (lv_at hl 1 rfl) ?_
          refine x_geti hx hb hts hinRX9 hown B 65 11 (by decide) (fun _ => rfl) rfl rfl (by decide) (by decide +kernel) rfl dX9_derive_87 ?_
          exact L90  _ _ _ _ _ _ _ _ hf B (lv_sub hl [1, 2, 3, 0] rfl)
        · have hf := zif_f hc hf
          refine lv_iconst (v := (-1 : Int32)) hx hb dX9_derive_82 (by decide) ?_
          refine lv_goto (tgt := 90) hx hb dX9_derive_83 (by decide) ?_
          exact L90  _ _ _ _ _ _ _ _ hf B (lv_sub hl [1, 2, 3, 0] rfl)
      · have hf := zif_t hc hf
        refine lv_aload_n hx hb dX9_derive_49 rfl (lv_at hl 0 rfl) ?_
        refine lv_iconst (v := (0 : Int32)) hx hb dX9_derive_50 (by decide) ?_
        refine x_puti hx hb hts hinRX9 hown tyX9 tyX9_ok nmX9 B 65 5 (by decide) (by decide) (fun _ => rfl) rfl rfl (by decide) (by decide +kernel) rfl rfl rfl rfl dX9_derive_51 (fun H locs B => ?_)
        refine lv_aload_n hx hb dX9_derive_54 rfl (lv_at hl 0 rfl) ?_
        refine lv_aload_n hx hb dX9_derive_55 rfl (lv_at hl 0 rfl) ?_
        refine lv_iconst (v := (1 : Int32)) hx hb dX9_derive_56 (by decide) ?_
        refine lv_iload_n hx hb dX9_derive_57 rfl (lv_at hl 2 rfl) ?_
        refine lv_iconst (v := (2 : Int32)) hx hb dX9_derive_58 (by decide) ?_
        obtain ⟨r20, σ21, hu19, hf⟩ := zb_some hf
        refine x_i B (fun nb a g hs Bz => va_runV (As := [.int (1 : Int32), .int v2, .int (2 : Int32)]) (rest := [.ref (ad 65)]) ⟨hx, hb, hml, hown, hts⟩ (c_X9_reports l hu19 _ nb a g hs) (cwV 3 hts gX9_derive_X9_reports rfl rfl rfl (by decide +kernel) ⟨Nat.le_of_ble_eq_true rfl, Nat.le_of_ble_eq_true rfl⟩) (x_preV Bz (by decide) (fun _ => rfl) rfl) rfl rfl hl.1 rfl (lv_room (Nat.le_of_ble_eq_true rfl)) dX9_derive_59 ⟨Nat.le_of_ble_eq_true rfl, Nat.le_of_ble_eq_true rfl⟩) (fun H locs B => ?_)
        refine x_puti hx hb hts hinRX9 hown tyX9 tyX9_ok nmX9 B 65 3 (by decide) (by decide) (fun _ => rfl) rfl rfl (by decide) (by decide +kernel) rfl rfl rfl rfl dX9_derive_62 (fun H locs B => ?_)
        refine lv_iconst (v := (0 : Int32)) hx hb dX9_derive_65 (by decide) ?_
        refine W.widen (k := 0) (n := 0) (Nat.le_of_ble_eq_true rfl) (Nat.le_of_ble_eq_true rfl) ?_
        exact x_iret hx hb hr rfl hlocks B hf dX9_derive_66
    · have hf := zif_f hc hf
      refine lv_iconst (v := (0 : Int32)) hx hb dX9_derive_31 (by decide) ?_
      refine W.widen (k := 0) (n := 0) (Nat.le_of_ble_eq_true rfl) (Nat.le_of_ble_eq_true rfl) ?_
      exact x_iret hx hb hr rfl hlocks B hf dX9_derive_32
  unfold f_X9_derive at hf
  refine lv_aload_n hx hb dX9_derive_0 rfl (lv_at hl 0 rfl) ?_
  refine lv_iload_n hx hb dX9_derive_1 rfl (lv_at hl 1 rfl) ?_
  obtain ⟨r2, σ3, hu1, hf⟩ := zb_some hf
  refine x_i B (fun nb a g hs Bz => va_runS (As := [.int a1]) (rest := [.ref (ad 65)]) ⟨hx, hb, hml, hown, hts⟩ (c_X9_isSubject l hu1 _ nb a g hs) (va_cwS 1 hts gX9_derive_X9_isSubject rfl rfl rfl (by decide +kernel) ⟨Nat.le_of_ble_eq_true rfl, Nat.le_of_ble_eq_true rfl⟩) (z_preS Bz) rfl rfl hl.1 rfl (lv_room (Nat.le_of_ble_eq_true rfl)) dX9_derive_2 ⟨Nat.le_of_ble_eq_true rfl, Nat.le_of_ble_eq_true rfl⟩) (fun H locs B => ?_)
  refine lv_if_eq (tgt := 20) hx hb dX9_derive_5 (by decide) (fun hc => ?_) (fun hc => ?_)
  · have hf := zif_t hc hf
    refine lv_iconst (v := (1 : Int32)) hx hb dX9_derive_20 (by decide) ?_
    exact L21  _ _ _ _ _ _ _ hf B (lv_sub hl [0, 1, 2] rfl)
  · have hf := zif_f hc hf
    refine lv_aload_n hx hb dX9_derive_8 rfl (lv_at hl 0 rfl) ?_
    refine lv_iload_n hx hb dX9_derive_9 rfl (lv_at hl 2 rfl) ?_
    obtain ⟨r23, σ24, hu22, hf⟩ := zb_some hf
    refine x_i B (fun nb a g hs Bz => va_runV (As := [.int a2]) (rest := [.ref (ad 65)]) ⟨hx, hb, hml, hown, hts⟩ (c_X9_isToken l hu22 _ nb a g hs) (cwV 1 hts gX9_derive_X9_isToken rfl rfl rfl (by decide +kernel) ⟨Nat.le_of_ble_eq_true rfl, Nat.le_of_ble_eq_true rfl⟩) (x_preV Bz (by decide) (fun _ => rfl) rfl) rfl rfl hl.1 rfl (lv_room (Nat.le_of_ble_eq_true rfl)) dX9_derive_10 ⟨Nat.le_of_ble_eq_true rfl, Nat.le_of_ble_eq_true rfl⟩) (fun H locs B => ?_)
    refine lv_if_eq (tgt := 20) hx hb dX9_derive_13 (by decide) (fun hc => ?_) (fun hc => ?_)
    · have hf := zif_t hc hf
      refine lv_iconst (v := (1 : Int32)) hx hb dX9_derive_20 (by decide) ?_
      exact L21  _ _ _ _ _ _ _ hf B (lv_sub hl [0, 1, 2] rfl)
    · have hf := zif_f hc hf
      refine lv_iconst (v := (0 : Int32)) hx hb dX9_derive_16 (by decide) ?_
      refine lv_goto (tgt := 21) hx hb dX9_derive_17 (by decide) ?_
      exact L21  _ _ _ _ _ _ _ hf B (lv_sub hl [0, 1, 2] rfl)
theorem dX9_errorPosition_0 : decode cX9_errorPosition 0 = .ok (.aload_n 0, 1) := by decide +kernel
theorem dX9_errorPosition_1 : decode cX9_errorPosition 1 = .ok (.iconst 0, 1) := by decide +kernel
theorem dX9_errorPosition_2 : decode cX9_errorPosition 2 = .ok (.putfield 41, 3) := by decide +kernel
theorem dX9_errorPosition_5 : decode cX9_errorPosition 5 = .ok (.aload_n 0, 1) := by decide +kernel
theorem dX9_errorPosition_6 : decode cX9_errorPosition 6 = .ok (.getfield 19, 3) := by decide +kernel
theorem dX9_errorPosition_9 : decode cX9_errorPosition 9 = .ok (.ireturn, 1) := by decide +kernel
def rm_X9_errorPosition : Room := { frames := 1, cells := 0, slots := 0, locals := 16 }
set_option maxHeartbeats 4000000 in
set_option maxRecDepth 100000 in
theorem c_X9_errorPosition (l : Launch) {G : zG} {ad : Nat → Nat} {σ σ' : zs} {r : Int32} (hf : f_X9_errorPosition σ  = some (r, σ')) : xMi l yX9_errorPosition wsX9_errorPosition rm_X9_errorPosition G ad σ [.ref (ad 65)] r σ' := by
  intro sz nb a g hs
  refine Met.ofW (cc := cX9_errorPosition) (maxL := 1) (ret := (some .int)) (by decide) rfl ?_
  intro p e s m args below meth c s₁ B hml hv
  obtain ⟨rfl, hsz, hv⟩ := hv
  have hx := B.exec
  have hb := B.bytes
  have hr := B.returns
  have hts := atoms_spec (ws := wsX9_errorPosition) B.pre
  have hown : s.vm.findClass RX9 = some m.cls := findClass_of_methodNamed B.named
  have hlocks := B.notSynchronized
  subst hsz
  have B := xB_start hs hv
  have hinRX9 : ∀ w ∈ wsX90, w ∈ wsX9_errorPosition := by decide +kernel
  have hl := lv_entry ([.ref (ad 65)]) (n := 1) (Nat.le_of_ble_eq_true rfl)
  rw [lg_entry_eq]
  generalize (lg_sl ([.ref (ad 65)]) ++ List.replicate (1 - (lg_sl ([.ref (ad 65)])).length) Slot.unset).toArray = ls at hl ⊢
  have hl : lv_has ls 1 [(0, .ref (ad 65))] := hl
  generalize hAe : xA ad a s.heap.size = A at B ⊢
  unfold f_X9_errorPosition at hf
  refine lv_aload_n hx hb dX9_errorPosition_0 rfl (lv_at hl 0 rfl) ?_
  refine lv_iconst (v := (0 : Int32)) hx hb dX9_errorPosition_1 (by decide) ?_
  refine x_puti hx hb hts hinRX9 hown tyX9 tyX9_ok nmX9 B 65 3 (by decide) (by decide) (fun _ => rfl) rfl rfl (by decide) (by decide +kernel) rfl rfl rfl rfl dX9_errorPosition_2 (fun H locs B => ?_)
  refine lv_aload_n hx hb dX9_errorPosition_5 rfl (lv_at hl 0 rfl) ?_
  refine x_geti hx hb hts hinRX9 hown B 65 6 (by decide) (fun _ => rfl) rfl rfl (by decide) (by decide +kernel) rfl dX9_errorPosition_6 ?_
  refine W.widen (k := 0) (n := 0) (Nat.le_of_ble_eq_true rfl) (Nat.le_of_ble_eq_true rfl) ?_
  exact x_iret hx hb hr rfl hlocks B hf dX9_errorPosition_9
theorem dX9_give_0 : decode cX9_give 0 = .ok (.aload_n 0, 1) := by decide +kernel
theorem dX9_give_1 : decode cX9_give 1 = .ok (.iload_n 1, 1) := by decide +kernel
theorem dX9_give_2 : decode cX9_give 2 = .ok (.invokestatic 78, 3) := by decide +kernel
theorem dX9_give_5 : decode cX9_give 5 = .ok (.ifCond .eq 22, 3) := by decide +kernel
theorem dX9_give_8 : decode cX9_give 8 = .ok (.iload_n 2, 1) := by decide +kernel
theorem dX9_give_9 : decode cX9_give 9 = .ok (.invokestatic 78, 3) := by decide +kernel
theorem dX9_give_12 : decode cX9_give 12 = .ok (.ifCond .eq 15, 3) := by decide +kernel
theorem dX9_give_15 : decode cX9_give 15 = .ok (.aload_n 0, 1) := by decide +kernel
theorem dX9_give_16 : decode cX9_give 16 = .ok (.iload_n 3, 1) := by decide +kernel
theorem dX9_give_17 : decode cX9_give 17 = .ok (.invokevirtual 118, 3) := by decide +kernel
theorem dX9_give_20 : decode cX9_give 20 = .ok (.ifCond .eq 7, 3) := by decide +kernel
theorem dX9_give_23 : decode cX9_give 23 = .ok (.iconst 0, 1) := by decide +kernel
theorem dX9_give_24 : decode cX9_give 24 = .ok (.goto 4, 3) := by decide +kernel
theorem dX9_give_27 : decode cX9_give 27 = .ok (.iconst 1, 1) := by decide +kernel
theorem dX9_give_28 : decode cX9_give 28 = .ok (.putfield 41, 3) := by decide +kernel
theorem dX9_give_31 : decode cX9_give 31 = .ok (.aload_n 0, 1) := by decide +kernel
theorem dX9_give_32 : decode cX9_give 32 = .ok (.getfield 41, 3) := by decide +kernel
theorem dX9_give_35 : decode cX9_give 35 = .ok (.ifCond .ne 23, 3) := by decide +kernel
theorem dX9_give_38 : decode cX9_give 38 = .ok (.aload_n 0, 1) := by decide +kernel
theorem dX9_give_39 : decode cX9_give 39 = .ok (.aload_n 0, 1) := by decide +kernel
theorem dX9_give_40 : decode cX9_give 40 = .ok (.iload_n 1, 1) := by decide +kernel
theorem dX9_give_41 : decode cX9_give 41 = .ok (.iload_n 3, 1) := by decide +kernel
theorem dX9_give_42 : decode cX9_give 42 = .ok (.iconst 4, 1) := by decide +kernel
theorem dX9_give_43 : decode cX9_give 43 = .ok (.iconst 0, 1) := by decide +kernel
theorem dX9_give_44 : decode cX9_give 44 = .ok (.invokevirtual 124, 3) := by decide +kernel
theorem dX9_give_47 : decode cX9_give 47 = .ok (.ifCond .eq 7, 3) := by decide +kernel
theorem dX9_give_50 : decode cX9_give 50 = .ok (.iconst 0, 1) := by decide +kernel
theorem dX9_give_51 : decode cX9_give 51 = .ok (.goto 4, 3) := by decide +kernel
theorem dX9_give_54 : decode cX9_give 54 = .ok (.iconst 2, 1) := by decide +kernel
theorem dX9_give_55 : decode cX9_give 55 = .ok (.putfield 41, 3) := by decide +kernel
theorem dX9_give_58 : decode cX9_give 58 = .ok (.aload_n 0, 1) := by decide +kernel
theorem dX9_give_59 : decode cX9_give 59 = .ok (.getfield 41, 3) := by decide +kernel
theorem dX9_give_62 : decode cX9_give 62 = .ok (.ifCond .eq 5, 3) := by decide +kernel
theorem dX9_give_65 : decode cX9_give 65 = .ok (.iconst 0, 1) := by decide +kernel
theorem dX9_give_66 : decode cX9_give 66 = .ok (.ireturn, 1) := by decide +kernel
theorem dX9_give_67 : decode cX9_give 67 = .ok (.aload_n 0, 1) := by decide +kernel
theorem dX9_give_68 : decode cX9_give 68 = .ok (.getfield 9, 3) := by decide +kernel
theorem dX9_give_71 : decode cX9_give 71 = .ok (.bipush 107, 2) := by decide +kernel
theorem dX9_give_73 : decode cX9_give 73 = .ok (.iload_n 3, 1) := by decide +kernel
theorem dX9_give_74 : decode cX9_give 74 = .ok (.iadd, 1) := by decide +kernel
theorem dX9_give_75 : decode cX9_give 75 = .ok (.dup2, 1) := by decide +kernel
theorem dX9_give_76 : decode cX9_give 76 = .ok (.iaload, 1) := by decide +kernel
theorem dX9_give_77 : decode cX9_give 77 = .ok (.iconst 1, 1) := by decide +kernel
theorem dX9_give_78 : decode cX9_give 78 = .ok (.iload_n 2, 1) := by decide +kernel
theorem dX9_give_79 : decode cX9_give 79 = .ok (.ishl, 1) := by decide +kernel
theorem dX9_give_80 : decode cX9_give 80 = .ok (.ior, 1) := by decide +kernel
theorem dX9_give_81 : decode cX9_give 81 = .ok (.iastore, 1) := by decide +kernel
theorem dX9_give_82 : decode cX9_give 82 = .ok (.aload_n 0, 1) := by decide +kernel
theorem dX9_give_83 : decode cX9_give 83 = .ok (.getfield 9, 3) := by decide +kernel
theorem dX9_give_86 : decode cX9_give 86 = .ok (.bipush 107, 2) := by decide +kernel
theorem dX9_give_88 : decode cX9_give 88 = .ok (.iload_n 3, 1) := by decide +kernel
theorem dX9_give_89 : decode cX9_give 89 = .ok (.iadd, 1) := by decide +kernel
theorem dX9_give_90 : decode cX9_give 90 = .ok (.iaload, 1) := by decide +kernel
theorem dX9_give_91 : decode cX9_give 91 = .ok (.invokestatic 128, 3) := by decide +kernel
theorem dX9_give_94 : decode cX9_give 94 = .ok (.ireturn, 1) := by decide +kernel
set_option maxRecDepth 20000 in
theorem ggX9_give_X9_isSubject : GoodIn wsX9_give wsX9_isSubject := goodIn_r _ [6, 7, 8, 5, 9] (by decide +kernel) (by decide +kernel)
set_option maxRecDepth 20000 in
theorem gX9_give_X9_isSubject : GoodIn wsX9_give (va_wsS RX9 78 yX9_isSubject wsX9_isSubject) := goodIn_app (goodIn_of _ (by decide +kernel)) ggX9_give_X9_isSubject
set_option maxRecDepth 20000 in
theorem ggX9_give_X9_bits : GoodIn wsX9_give wsX9_bits := goodIn_r _ [51] (by decide +kernel) (by decide +kernel)
set_option maxRecDepth 20000 in
theorem gX9_give_X9_bits : GoodIn wsX9_give (va_wsS RX9 128 yX9_bits wsX9_bits) := goodIn_app (goodIn_of _ (by decide +kernel)) ggX9_give_X9_bits
set_option maxRecDepth 20000 in
theorem ggX9_give_X9_allows : GoodIn wsX9_give wsX9_allows := goodIn_ca (goodIn_r _ [17, 2, 18, 19, 20, 5, 21, 22, 23, 24, 25, 26, 27, 28, 29, 30, 31, 32, 33, 34, 35, 36, 37, 38, 39, 40, 41, 42, 43, 44, 7, 8, 9, 45, 46, 47, 48, 52, 53, 54, 55, 56, 57, 58, 59, 60, 61, 62, 63, 64, 65, 66, 67, 68, 69, 70, 71] (by decide +kernel) (by decide +kernel)) (goodIn_sub (fun _ h => List.mem_cons_of_mem _ (List.mem_append_right _ h)) (by decide +kernel))
set_option maxRecDepth 20000 in
theorem gX9_give_X9_allows : GoodIn wsX9_give (wsV RX9 124 RX9 yX9_allows wsX9_allows) := goodIn_app (goodIn_of _ (by decide +kernel)) ggX9_give_X9_allows
set_option maxRecDepth 20000 in
theorem ggX9_give_X9_isToken : GoodIn wsX9_give wsX9_isToken := goodIn_ca (goodIn_r _ [13, 2, 7, 8, 5, 9, 52, 53, 54, 55, 56, 57, 58, 59, 60, 61, 62, 63, 64, 65, 66, 67, 68, 69, 70, 71] (by decide +kernel) (by decide +kernel)) (goodIn_sub (fun _ h => List.mem_cons_of_mem _ (List.mem_append_right _ h)) (by decide +kernel))
set_option maxRecDepth 20000 in
theorem gX9_give_X9_isToken : GoodIn wsX9_give (wsV RX9 118 RX9 yX9_isToken wsX9_isToken) := goodIn_app (goodIn_of _ (by decide +kernel)) ggX9_give_X9_isToken
def rm_X9_give : Room := { frames := 4, cells := 0, slots := 0, locals := 94 }
set_option maxHeartbeats 4000000 in
set_option maxRecDepth 100000 in
theorem c_X9_give (l : Launch) {G : zG} {ad : Nat → Nat} {σ σ' : zs} {a1 a2 a3 : Int32} {r : Int32} (hf : f_X9_give σ a1 a2 a3 = some (r, σ')) : xMi l yX9_give wsX9_give rm_X9_give G ad σ [.ref (ad 65), .int a1, .int a2, .int a3] r σ' := by
  intro sz nb a g hs
  refine Met.ofW (cc := cX9_give) (maxL := 4) (ret := (some .int)) (by decide) rfl ?_
  intro p e s m args below meth c s₁ B hml hv
  obtain ⟨rfl, hsz, hv⟩ := hv
  have hx := B.exec
  have hb := B.bytes
  have hr := B.returns
  have hts := atoms_spec (ws := wsX9_give) B.pre
  have hown : s.vm.findClass RX9 = some m.cls := findClass_of_methodNamed B.named
  have hlocks := B.notSynchronized
  subst hsz
  have B := xB_start hs hv
  have hinRX9 : ∀ w ∈ wsX90, w ∈ wsX9_give := by decide +kernel
  have hl := lv_entry ([.ref (ad 65), .int a1, .int a2, .int a3]) (n := 4) (Nat.le_of_ble_eq_true rfl)
  rw [lg_entry_eq]
  generalize (lg_sl ([.ref (ad 65), .int a1, .int a2, .int a3]) ++ List.replicate (4 - (lg_sl ([.ref (ad 65), .int a1, .int a2, .int a3])).length) Slot.unset).toArray = ls at hl ⊢
  have hl : lv_has ls 4 [(0, .ref (ad 65)), (1, .int a1), (2, .int a2), (3, .int a3)] := hl
  generalize hAe : xA ad a s.heap.size = A at B ⊢
  have L58 : ∀ (σ : zs) (v2 : Int32) (v3 : Int32) (H : Heap) (locs : List Loc) (ls : Array Slot), f_X9_give_58 σ v2 v3 = some (r, σ') → xB A s G ad σ H locs → lv_has ls 4 [(0, .ref (ad 65)), (2, .int v2), (3, .int v3)] → W p l e (headSpec wsX9_give rm_X9_give).room s m ([.ref (ad 65), .int a1, .int a2, .int a3] : List Value).toArray below meth c H locs 0 0 (MQ below (va_Qi (fun r' (u : xV) => r' = r ∧ xQ σ' u) (xPost G ad σ' A) A) ([.ref (ad 65), .int a1, .int a2, .int a3] : List Value).toArray s 0 0 A) (F0 m 58 ls []) := by
    intro σ v2 v3 H locs ls hf B hl
    unfold f_X9_give_58 at hf
    refine lv_aload_n hx hb dX9_give_58 rfl (lv_at hl 0 rfl) ?_
    refine x_geti hx hb hts hinRX9 hown B 65 3 (by decide) (fun _ => rfl) rfl rfl (by decide) (by decide +kernel) rfl dX9_give_59 ?_
    refine lv_if_eq (tgt := 67) hx hb dX9_give_62 (by decide) (fun hc => ?_) (fun hc => ?_)
    · have hf := zif_t hc hf
      refine lv_aload_n hx hb dX9_give_67 rfl (lv_at hl 0 rfl) ?_
      refine x_getr hx hb hts hinRX9 hown B 65 0 66 (by decide) (by decide) (fun _ => rfl) rfl rfl (by decide) (by decide +kernel) rfl dX9_give_68 ?_
      refine lv_bipush (v := (107 : Int32)) hx hb dX9_give_71 (by decide) ?_
      refine lv_iload_n hx hb dX9_give_73 rfl (lv_at hl 2 rfl) ?_
      refine lv_iadd hx hb dX9_give_74 ?_
      refine lv_dup2_11 hx hb dX9_give_75 rfl rfl ?_
      obtain ⟨hg, hf⟩ := zg_some hf
      refine x_iald hx hb B 66 (by decide) (fun _ => rfl) (zin_ok hg) dX9_give_76 ?_
      refine lv_iconst (v := (1 : Int32)) hx hb dX9_give_77 (by decide) ?_
      refine lv_iload_n hx hb dX9_give_78 rfl (lv_at hl 1 rfl) ?_
      refine lv_ishl hx hb dX9_give_79 ?_
      refine lv_ior hx hb dX9_give_80 ?_
      obtain ⟨hg, hf⟩ := zg_some hf
      refine x_iast hx hb B 66 (by decide) (by decide) (fun _ => rfl) (zin_ok hg) dX9_give_81 (fun H locs B => ?_)
      refine lv_aload_n hx hb dX9_give_82 rfl (lv_at hl 0 rfl) ?_
      refine x_getr hx hb hts hinRX9 hown B 65 0 66 (by decide) (by decide) (fun _ => rfl) rfl rfl (by decide) (by decide +kernel) rfl dX9_give_83 ?_
      refine lv_bipush (v := (107 : Int32)) hx hb dX9_give_86 (by decide) ?_
      refine lv_iload_n hx hb dX9_give_88 rfl (lv_at hl 2 rfl) ?_
      refine lv_iadd hx hb dX9_give_89 ?_
      obtain ⟨hg, hf⟩ := zg_some hf
      refine x_iald hx hb B 66 (by decide) (fun _ => rfl) (zin_ok hg) dX9_give_90 ?_
      obtain ⟨r5, σ6, hu4, hf⟩ := zb_some hf
      refine x_i B (fun nb a g hs Bz => va_runS (As := [.int ((zp σ 66 ((107 : Int32) + v3).toNatClampNeg ((σ 66 ((107 : Int32) + v3).toNatClampNeg) ||| ((1 : Int32) <<< (v2 &&& 31)))) 66 ((107 : Int32) + v3).toNatClampNeg)]) (rest := []) ⟨hx, hb, hml, hown, hts⟩ (c_X9_bits l hu4 _ nb a g hs) (va_cwS 1 hts gX9_give_X9_bits rfl rfl rfl (by decide +kernel) ⟨Nat.le_of_ble_eq_true rfl, Nat.le_of_ble_eq_true rfl⟩) (z_preS Bz) rfl rfl hl.1 rfl (lv_room (Nat.le_of_ble_eq_true rfl)) dX9_give_91 ⟨Nat.le_of_ble_eq_true rfl, Nat.le_of_ble_eq_true rfl⟩) (fun H locs B => ?_)
      refine W.widen (k := 0) (n := 0) (Nat.le_of_ble_eq_true rfl) (Nat.le_of_ble_eq_true rfl) ?_
      exact x_iret hx hb hr rfl hlocks B hf dX9_give_94
    · have hf := zif_f hc hf
      refine lv_iconst (v := (0 : Int32)) hx hb dX9_give_65 (by decide) ?_
      refine W.widen (k := 0) (n := 0) (Nat.le_of_ble_eq_true rfl) (Nat.le_of_ble_eq_true rfl) ?_
      exact x_iret hx hb hr rfl hlocks B hf dX9_give_66
  have L28 : ∀ (σ : zs) (v1 : Int32) (v2 : Int32) (v3 : Int32) (s0 : Int32) (H : Heap) (locs : List Loc) (ls : Array Slot), f_X9_give_28 σ v1 v2 v3 s0 = some (r, σ') → xB A s G ad σ H locs → lv_has ls 4 [(0, .ref (ad 65)), (1, .int v1), (2, .int v2), (3, .int v3)] → W p l e (headSpec wsX9_give rm_X9_give).room s m ([.ref (ad 65), .int a1, .int a2, .int a3] : List Value).toArray below meth c H locs 0 0 (MQ below (va_Qi (fun r' (u : xV) => r' = r ∧ xQ σ' u) (xPost G ad σ' A) A) ([.ref (ad 65), .int a1, .int a2, .int a3] : List Value).toArray s 0 0 A) (F0 m 28 ls [.int s0, .ref (ad 65)]) := by
    intro σ v1 v2 v3 s0 H locs ls hf B hl
    unfold f_X9_give_28 at hf
    refine x_puti hx hb hts hinRX9 hown tyX9 tyX9_ok nmX9 B 65 3 (by decide) (by decide) (fun _ => rfl) rfl rfl (by decide) (by decide +kernel) rfl rfl rfl rfl dX9_give_28 (fun H locs B => ?_)
    refine lv_aload_n hx hb dX9_give_31 rfl (lv_at hl 0 rfl) ?_
    refine x_geti hx hb hts hinRX9 hown B 65 3 (by decide) (fun _ => rfl) rfl rfl (by decide) (by decide +kernel) rfl dX9_give_32 ?_
    refine lv_if_ne (tgt := 58) hx hb dX9_give_35 (by decide) (fun hc => ?_) (fun hc => ?_)
    · have hf := zif_f hc hf
      exact L58  _ _ _ _ _ _ hf B (lv_sub hl [0, 2, 3] rfl)
    · have hf := zif_t hc hf
      refine lv_aload_n hx hb dX9_give_38 rfl (lv_at hl 0 rfl) ?_
      refine lv_aload_n hx hb dX9_give_39 rfl (lv_at hl 0 rfl) ?_
      refine lv_iload_n hx hb dX9_give_40 rfl (lv_at hl 1 rfl) ?_
      refine lv_iload_n hx hb dX9_give_41 rfl (lv_at hl 3 rfl) ?_
      refine lv_iconst (v := (4 : Int32)) hx hb dX9_give_42 (by decide) ?_
      refine lv_iconst (v := (0 : Int32)) hx hb dX9_give_43 (by decide) ?_
      obtain ⟨r8, σ9, hu7, hf⟩ := zb_some hf
      refine x_i B (fun nb a g hs Bz => va_runV (As := [.int v1, .int v3, .int (4 : Int32), .int (0 : Int32)]) (rest := [.ref (ad 65)]) ⟨hx, hb, hml, hown, hts⟩ (c_X9_allows l hu7 _ nb a g hs) (cwV 4 hts gX9_give_X9_allows rfl rfl rfl (by decide +kernel) ⟨Nat.le_of_ble_eq_true rfl, Nat.le_of_ble_eq_true rfl⟩) (x_preV Bz (by decide) (fun _ => rfl) rfl) rfl rfl hl.1 rfl (lv_room (Nat.le_of_ble_eq_true rfl)) dX9_give_44 ⟨Nat.le_of_ble_eq_true rfl, Nat.le_of_ble_eq_true rfl⟩) (fun H locs B => ?_)
      refine lv_if_eq (tgt := 54) hx hb dX9_give_47 (by decide) (fun hc => ?_) (fun hc => ?_)
      · have hf := zif_t hc hf
        refine lv_iconst (v := (2 : Int32)) hx hb dX9_give_54 (by decide) ?_
        refine x_puti hx hb hts hinRX9 hown tyX9 tyX9_ok nmX9 B 65 3 (by decide) (by decide) (fun _ => rfl) rfl rfl (by decide) (by decide +kernel) rfl rfl rfl rfl dX9_give_55 (fun H locs B => ?_)
        exact L58  _ _ _ _ _ _ hf B (lv_sub hl [0, 2, 3] rfl)
      · have hf := zif_f hc hf
        refine lv_iconst (v := (0 : Int32)) hx hb dX9_give_50 (by decide) ?_
        refine lv_goto (tgt := 55) hx hb dX9_give_51 (by decide) ?_
        refine x_puti hx hb hts hinRX9 hown tyX9 tyX9_ok nmX9 B 65 3 (by decide) (by decide) (fun _ => rfl) rfl rfl (by decide) (by decide +kernel) rfl rfl rfl rfl dX9_give_55 (fun H locs B => ?_)
        exact L58  _ _ _ _ _ _ hf B (lv_sub hl [0, 2, 3] rfl)
  unfold f_X9_give at hf
  refine lv_aload_n hx hb dX9_give_0 rfl (lv_at hl 0 rfl) ?_
  refine lv_iload_n hx hb dX9_give_1 rfl (lv_at hl 1 rfl) ?_
  obtain ⟨r2, σ3, hu1, hf⟩ := zb_some hf
  refine x_i B (fun nb a g hs Bz => va_runS (As := [.int a1]) (rest := [.ref (ad 65)]) ⟨hx, hb, hml, hown, hts⟩ (c_X9_isSubject l hu1 _ nb a g hs) (va_cwS 1 hts gX9_give_X9_isSubject rfl rfl rfl (by decide +kernel) ⟨Nat.le_of_ble_eq_true rfl, Nat.le_of_ble_eq_true rfl⟩) (z_preS Bz) rfl rfl hl.1 rfl (lv_room (Nat.le_of_ble_eq_true rfl)) dX9_give_2 ⟨Nat.le_of_ble_eq_true rfl, Nat.le_of_ble_eq_true rfl⟩) (fun H locs B => ?_)
  refine lv_if_eq (tgt := 27) hx hb dX9_give_5 (by decide) (fun hc => ?_) (fun hc => ?_)
  · have hf := zif_t hc hf
    refine lv_iconst (v := (1 : Int32)) hx hb dX9_give_27 (by decide) ?_
    exact L28  _ _ _ _ _ _ _ _ hf B (lv_sub hl [0, 1, 2, 3] rfl)
  · have hf := zif_f hc hf
    refine lv_iload_n hx hb dX9_give_8 rfl (lv_at hl 2 rfl) ?_
    obtain ⟨r11, σ12, hu10, hf⟩ := zb_some hf
    refine x_i B (fun nb a g hs Bz => va_runS (As := [.int a2]) (rest := [.ref (ad 65)]) ⟨hx, hb, hml, hown, hts⟩ (c_X9_isSubject l hu10 _ nb a g hs) (va_cwS 1 hts gX9_give_X9_isSubject rfl rfl rfl (by decide +kernel) ⟨Nat.le_of_ble_eq_true rfl, Nat.le_of_ble_eq_true rfl⟩) (z_preS Bz) rfl rfl hl.1 rfl (lv_room (Nat.le_of_ble_eq_true rfl)) dX9_give_9 ⟨Nat.le_of_ble_eq_true rfl, Nat.le_of_ble_eq_true rfl⟩) (fun H locs B => ?_)
    refine lv_if_eq (tgt := 27) hx hb dX9_give_12 (by decide) (fun hc => ?_) (fun hc => ?_)
    · have hf := zif_t hc hf
      refine lv_iconst (v := (1 : Int32)) hx hb dX9_give_27 (by decide) ?_
      exact L28  _ _ _ _ _ _ _ _ hf B (lv_sub hl [0, 1, 2, 3] rfl)
    · have hf := zif_f hc hf
      refine lv_aload_n hx hb dX9_give_15 rfl (lv_at hl 0 rfl) ?_
      refine lv_iload_n hx hb dX9_give_16 rfl (lv_at hl 3 rfl) ?_
      obtain ⟨r14, σ15, hu13, hf⟩ := zb_some hf
      refine x_i B (fun nb a g hs Bz => va_runV (As := [.int a3]) (rest := [.ref (ad 65)]) ⟨hx, hb, hml, hown, hts⟩ (c_X9_isToken l hu13 _ nb a g hs) (cwV 1 hts gX9_give_X9_isToken rfl rfl rfl (by decide +kernel) ⟨Nat.le_of_ble_eq_true rfl, Nat.le_of_ble_eq_true rfl⟩) (x_preV Bz (by decide) (fun _ => rfl) rfl) rfl rfl hl.1 rfl (lv_room (Nat.le_of_ble_eq_true rfl)) dX9_give_17 ⟨Nat.le_of_ble_eq_true rfl, Nat.le_of_ble_eq_true rfl⟩) (fun H locs B => ?_)
      refine lv_if_eq (tgt := 27) hx hb dX9_give_20 (by decide) (fun hc => ?_) (fun hc => ?_)
      · have hf := zif_t hc hf
        refine lv_iconst (v := (1 : Int32)) hx hb dX9_give_27 (by decide) ?_
        exact L28  _ _ _ _ _ _ _ _ hf B (lv_sub hl [0, 1, 2, 3] rfl)
      · have hf := zif_f hc hf
        refine lv_iconst (v := (0 : Int32)) hx hb dX9_give_23 (by decide) ?_
        refine lv_goto (tgt := 28) hx hb dX9_give_24 (by decide) ?_
        exact L28  _ _ _ _ _ _ _ _ hf B (lv_sub hl [0, 1, 2, 3] rfl)
theorem dX9_drop_0 : decode cX9_drop 0 = .ok (.aload_n 0, 1) := by decide +kernel
theorem dX9_drop_1 : decode cX9_drop 1 = .ok (.iload_n 1, 1) := by decide +kernel
theorem dX9_drop_2 : decode cX9_drop 2 = .ok (.invokestatic 78, 3) := by decide +kernel
theorem dX9_drop_5 : decode cX9_drop 5 = .ok (.ifCond .eq 11, 3) := by decide +kernel
theorem dX9_drop_8 : decode cX9_drop 8 = .ok (.aload_n 0, 1) := by decide +kernel
theorem dX9_drop_9 : decode cX9_drop 9 = .ok (.iload_n 2, 1) := by decide +kernel
theorem dX9_drop_10 : decode cX9_drop 10 = .ok (.invokevirtual 118, 3) := by decide +kernel
theorem dX9_drop_13 : decode cX9_drop 13 = .ok (.ifCond .ne 7, 3) := by decide +kernel
theorem dX9_drop_16 : decode cX9_drop 16 = .ok (.iconst 1, 1) := by decide +kernel
theorem dX9_drop_17 : decode cX9_drop 17 = .ok (.goto 24, 3) := by decide +kernel
theorem dX9_drop_20 : decode cX9_drop 20 = .ok (.aload_n 0, 1) := by decide +kernel
theorem dX9_drop_21 : decode cX9_drop 21 = .ok (.getfield 9, 3) := by decide +kernel
theorem dX9_drop_24 : decode cX9_drop 24 = .ok (.bipush 107, 2) := by decide +kernel
theorem dX9_drop_26 : decode cX9_drop 26 = .ok (.iload_n 2, 1) := by decide +kernel
theorem dX9_drop_27 : decode cX9_drop 27 = .ok (.iadd, 1) := by decide +kernel
theorem dX9_drop_28 : decode cX9_drop 28 = .ok (.iaload, 1) := by decide +kernel
theorem dX9_drop_29 : decode cX9_drop 29 = .ok (.iload_n 1, 1) := by decide +kernel
theorem dX9_drop_30 : decode cX9_drop 30 = .ok (.invokestatic 59, 3) := by decide +kernel
theorem dX9_drop_33 : decode cX9_drop 33 = .ok (.ifCond .eq 7, 3) := by decide +kernel
theorem dX9_drop_36 : decode cX9_drop 36 = .ok (.iconst 0, 1) := by decide +kernel
theorem dX9_drop_37 : decode cX9_drop 37 = .ok (.goto 4, 3) := by decide +kernel
theorem dX9_drop_40 : decode cX9_drop 40 = .ok (.iconst 2, 1) := by decide +kernel
theorem dX9_drop_41 : decode cX9_drop 41 = .ok (.putfield 41, 3) := by decide +kernel
theorem dX9_drop_44 : decode cX9_drop 44 = .ok (.aload_n 0, 1) := by decide +kernel
theorem dX9_drop_45 : decode cX9_drop 45 = .ok (.getfield 41, 3) := by decide +kernel
theorem dX9_drop_48 : decode cX9_drop 48 = .ok (.ifCond .eq 5, 3) := by decide +kernel
theorem dX9_drop_51 : decode cX9_drop 51 = .ok (.iconst 0, 1) := by decide +kernel
theorem dX9_drop_52 : decode cX9_drop 52 = .ok (.ireturn, 1) := by decide +kernel
theorem dX9_drop_53 : decode cX9_drop 53 = .ok (.aload_n 0, 1) := by decide +kernel
theorem dX9_drop_54 : decode cX9_drop 54 = .ok (.getfield 9, 3) := by decide +kernel
theorem dX9_drop_57 : decode cX9_drop 57 = .ok (.bipush 107, 2) := by decide +kernel
theorem dX9_drop_59 : decode cX9_drop 59 = .ok (.iload_n 2, 1) := by decide +kernel
theorem dX9_drop_60 : decode cX9_drop 60 = .ok (.iadd, 1) := by decide +kernel
theorem dX9_drop_61 : decode cX9_drop 61 = .ok (.dup2, 1) := by decide +kernel
theorem dX9_drop_62 : decode cX9_drop 62 = .ok (.iaload, 1) := by decide +kernel
theorem dX9_drop_63 : decode cX9_drop 63 = .ok (.iconst 1, 1) := by decide +kernel
theorem dX9_drop_64 : decode cX9_drop 64 = .ok (.iload_n 1, 1) := by decide +kernel
theorem dX9_drop_65 : decode cX9_drop 65 = .ok (.ishl, 1) := by decide +kernel
theorem dX9_drop_66 : decode cX9_drop 66 = .ok (.iconst (-1), 1) := by decide +kernel
theorem dX9_drop_67 : decode cX9_drop 67 = .ok (.ixor, 1) := by decide +kernel
theorem dX9_drop_68 : decode cX9_drop 68 = .ok (.iand, 1) := by decide +kernel
theorem dX9_drop_69 : decode cX9_drop 69 = .ok (.iastore, 1) := by decide +kernel
theorem dX9_drop_70 : decode cX9_drop 70 = .ok (.aload_n 0, 1) := by decide +kernel
theorem dX9_drop_71 : decode cX9_drop 71 = .ok (.getfield 9, 3) := by decide +kernel
theorem dX9_drop_74 : decode cX9_drop 74 = .ok (.bipush 107, 2) := by decide +kernel
theorem dX9_drop_76 : decode cX9_drop 76 = .ok (.iload_n 2, 1) := by decide +kernel
theorem dX9_drop_77 : decode cX9_drop 77 = .ok (.iadd, 1) := by decide +kernel
theorem dX9_drop_78 : decode cX9_drop 78 = .ok (.iaload, 1) := by decide +kernel
theorem dX9_drop_79 : decode cX9_drop 79 = .ok (.invokestatic 128, 3) := by decide +kernel
theorem dX9_drop_82 : decode cX9_drop 82 = .ok (.ireturn, 1) := by decide +kernel
set_option maxRecDepth 20000 in
theorem ggX9_drop_X9_isSubject : GoodIn wsX9_drop wsX9_isSubject := goodIn_r _ [6, 7, 8, 5, 9] (by decide +kernel) (by decide +kernel)
set_option maxRecDepth 20000 in
theorem gX9_drop_X9_isSubject : GoodIn wsX9_drop (va_wsS RX9 78 yX9_isSubject wsX9_isSubject) := goodIn_app (goodIn_of _ (by decide +kernel)) ggX9_drop_X9_isSubject
set_option maxRecDepth 20000 in
theorem ggX9_drop_X9_bits : GoodIn wsX9_drop wsX9_bits := goodIn_r _ [19] (by decide +kernel) (by decide +kernel)
set_option maxRecDepth 20000 in
theorem gX9_drop_X9_bits : GoodIn wsX9_drop (va_wsS RX9 128 yX9_bits wsX9_bits) := goodIn_app (goodIn_of _ (by decide +kernel)) ggX9_drop_X9_bits
set_option maxRecDepth 20000 in
theorem ggX9_drop_X9_isToken : GoodIn wsX9_drop wsX9_isToken := goodIn_ca (goodIn_r _ [13, 1, 7, 8, 5, 9, 20, 21, 22, 23, 24, 25, 26, 27, 28, 29, 30, 31, 32, 33, 34, 35, 36, 37, 38, 39] (by decide +kernel) (by decide +kernel)) (goodIn_sub (fun _ h => List.mem_cons_of_mem _ (List.mem_append_right _ h)) (by decide +kernel))
set_option maxRecDepth 20000 in
theorem gX9_drop_X9_isToken : GoodIn wsX9_drop (wsV RX9 118 RX9 yX9_isToken wsX9_isToken) := goodIn_app (goodIn_of _ (by decide +kernel)) ggX9_drop_X9_isToken
set_option maxRecDepth 20000 in
theorem ggX9_drop_X9_has : GoodIn wsX9_drop wsX9_has := goodIn_r _ [16] (by decide +kernel) (by decide +kernel)
set_option maxRecDepth 20000 in
theorem gX9_drop_X9_has : GoodIn wsX9_drop (va_wsS RX9 59 yX9_has wsX9_has) := goodIn_app (goodIn_of _ (by decide +kernel)) ggX9_drop_X9_has
def rm_X9_drop : Room := { frames := 3, cells := 0, slots := 0, locals := 59 }
set_option maxHeartbeats 4000000 in
set_option maxRecDepth 100000 in
theorem c_X9_drop (l : Launch) {G : zG} {ad : Nat → Nat} {σ σ' : zs} {a1 a2 : Int32} {r : Int32} (hf : f_X9_drop σ a1 a2 = some (r, σ')) : xMi l yX9_drop wsX9_drop rm_X9_drop G ad σ [.ref (ad 65), .int a1, .int a2] r σ' := by
  intro sz nb a g hs
  refine Met.ofW (cc := cX9_drop) (maxL := 3) (ret := (some .int)) (by decide) rfl ?_
  intro p e s m args below meth c s₁ B hml hv
  obtain ⟨rfl, hsz, hv⟩ := hv
  have hx := B.exec
  have hb := B.bytes
  have hr := B.returns
  have hts := atoms_spec (ws := wsX9_drop) B.pre
  have hown : s.vm.findClass RX9 = some m.cls := findClass_of_methodNamed B.named
  have hlocks := B.notSynchronized
  subst hsz
  have B := xB_start hs hv
  have hinRX9 : ∀ w ∈ wsX90, w ∈ wsX9_drop := by decide +kernel
  have hl := lv_entry ([.ref (ad 65), .int a1, .int a2]) (n := 3) (Nat.le_of_ble_eq_true rfl)
  rw [lg_entry_eq]
  generalize (lg_sl ([.ref (ad 65), .int a1, .int a2]) ++ List.replicate (3 - (lg_sl ([.ref (ad 65), .int a1, .int a2])).length) Slot.unset).toArray = ls at hl ⊢
  have hl : lv_has ls 3 [(0, .ref (ad 65)), (1, .int a1), (2, .int a2)] := hl
  generalize hAe : xA ad a s.heap.size = A at B ⊢
  have L41 : ∀ (σ : zs) (v1 : Int32) (v2 : Int32) (s0 : Int32) (H : Heap) (locs : List Loc) (ls : Array Slot), f_X9_drop_41 σ v1 v2 s0 = some (r, σ') → xB A s G ad σ H locs → lv_has ls 3 [(0, .ref (ad 65)), (1, .int v1), (2, .int v2)] → W p l e (headSpec wsX9_drop rm_X9_drop).room s m ([.ref (ad 65), .int a1, .int a2] : List Value).toArray below meth c H locs 0 0 (MQ below (va_Qi (fun r' (u : xV) => r' = r ∧ xQ σ' u) (xPost G ad σ' A) A) ([.ref (ad 65), .int a1, .int a2] : List Value).toArray s 0 0 A) (F0 m 41 ls [.int s0, .ref (ad 65)]) := by
    intro σ v1 v2 s0 H locs ls hf B hl
    unfold f_X9_drop_41 at hf
    refine x_puti hx hb hts hinRX9 hown tyX9 tyX9_ok nmX9 B 65 3 (by decide) (by decide) (fun _ => rfl) rfl rfl (by decide) (by decide +kernel) rfl rfl rfl rfl dX9_drop_41 (fun H locs B => ?_)
    refine lv_aload_n hx hb dX9_drop_44 rfl (lv_at hl 0 rfl) ?_
    refine x_geti hx hb hts hinRX9 hown B 65 3 (by decide) (fun _ => rfl) rfl rfl (by decide) (by decide +kernel) rfl dX9_drop_45 ?_
    refine lv_if_eq (tgt := 53) hx hb dX9_drop_48 (by decide) (fun hc => ?_) (fun hc => ?_)
    · have hf := zif_t hc hf
      refine lv_aload_n hx hb dX9_drop_53 rfl (lv_at hl 0 rfl) ?_
      refine x_getr hx hb hts hinRX9 hown B 65 0 66 (by decide) (by decide) (fun _ => rfl) rfl rfl (by decide) (by decide +kernel) rfl dX9_drop_54 ?_
      refine lv_bipush (v := (107 : Int32)) hx hb dX9_drop_57 (by decide) ?_
      refine lv_iload_n hx hb dX9_drop_59 rfl (lv_at hl 2 rfl) ?_
      refine lv_iadd hx hb dX9_drop_60 ?_
      refine lv_dup2_11 hx hb dX9_drop_61 rfl rfl ?_
      obtain ⟨hg, hf⟩ := zg_some hf
      refine x_iald hx hb B 66 (by decide) (fun _ => rfl) (zin_ok hg) dX9_drop_62 ?_
      refine lv_iconst (v := (1 : Int32)) hx hb dX9_drop_63 (by decide) ?_
      refine lv_iload_n hx hb dX9_drop_64 rfl (lv_at hl 1 rfl) ?_
      refine lv_ishl hx hb dX9_drop_65 ?_
      refine lv_iconst (v := (-1 : Int32)) hx hb dX9_drop_66 (by decide) ?_
      refine lv_ixor hx hb dX9_drop_67 ?_
      refine lv_iand hx hb dX9_drop_68 ?_
      obtain ⟨hg, hf⟩ := zg_some hf
      refine x_iast hx hb B 66 (by decide) (by decide) (fun _ => rfl) (zin_ok hg) dX9_drop_69 (fun H locs B => ?_)
      refine lv_aload_n hx hb dX9_drop_70 rfl (lv_at hl 0 rfl) ?_
      refine x_getr hx hb hts hinRX9 hown B 65 0 66 (by decide) (by decide) (fun _ => rfl) rfl rfl (by decide) (by decide +kernel) rfl dX9_drop_71 ?_
      refine lv_bipush (v := (107 : Int32)) hx hb dX9_drop_74 (by decide) ?_
      refine lv_iload_n hx hb dX9_drop_76 rfl (lv_at hl 2 rfl) ?_
      refine lv_iadd hx hb dX9_drop_77 ?_
      obtain ⟨hg, hf⟩ := zg_some hf
      refine x_iald hx hb B 66 (by decide) (fun _ => rfl) (zin_ok hg) dX9_drop_78 ?_
      obtain ⟨r5, σ6, hu4, hf⟩ := zb_some hf
      refine x_i B (fun nb a g hs Bz => va_runS (As := [.int ((zp (zp σ 65 3 s0) 66 ((107 : Int32) + v2).toNatClampNeg (((zp σ 65 3 s0) 66 ((107 : Int32) + v2).toNatClampNeg) &&& (((1 : Int32) <<< (v1 &&& 31)) ^^^ (-1 : Int32)))) 66 ((107 : Int32) + v2).toNatClampNeg)]) (rest := []) ⟨hx, hb, hml, hown, hts⟩ (c_X9_bits l hu4 _ nb a g hs) (va_cwS 1 hts gX9_drop_X9_bits rfl rfl rfl (by decide +kernel) ⟨Nat.le_of_ble_eq_true rfl, Nat.le_of_ble_eq_true rfl⟩) (z_preS Bz) rfl rfl hl.1 rfl (lv_room (Nat.le_of_ble_eq_true rfl)) dX9_drop_79 ⟨Nat.le_of_ble_eq_true rfl, Nat.le_of_ble_eq_true rfl⟩) (fun H locs B => ?_)
      refine W.widen (k := 0) (n := 0) (Nat.le_of_ble_eq_true rfl) (Nat.le_of_ble_eq_true rfl) ?_
      exact x_iret hx hb hr rfl hlocks B hf dX9_drop_82
    · have hf := zif_f hc hf
      refine lv_iconst (v := (0 : Int32)) hx hb dX9_drop_51 (by decide) ?_
      refine W.widen (k := 0) (n := 0) (Nat.le_of_ble_eq_true rfl) (Nat.le_of_ble_eq_true rfl) ?_
      exact x_iret hx hb hr rfl hlocks B hf dX9_drop_52
  unfold f_X9_drop at hf
  refine lv_aload_n hx hb dX9_drop_0 rfl (lv_at hl 0 rfl) ?_
  refine lv_iload_n hx hb dX9_drop_1 rfl (lv_at hl 1 rfl) ?_
  obtain ⟨r2, σ3, hu1, hf⟩ := zb_some hf
  refine x_i B (fun nb a g hs Bz => va_runS (As := [.int a1]) (rest := [.ref (ad 65)]) ⟨hx, hb, hml, hown, hts⟩ (c_X9_isSubject l hu1 _ nb a g hs) (va_cwS 1 hts gX9_drop_X9_isSubject rfl rfl rfl (by decide +kernel) ⟨Nat.le_of_ble_eq_true rfl, Nat.le_of_ble_eq_true rfl⟩) (z_preS Bz) rfl rfl hl.1 rfl (lv_room (Nat.le_of_ble_eq_true rfl)) dX9_drop_2 ⟨Nat.le_of_ble_eq_true rfl, Nat.le_of_ble_eq_true rfl⟩) (fun H locs B => ?_)
  refine lv_if_eq (tgt := 16) hx hb dX9_drop_5 (by decide) (fun hc => ?_) (fun hc => ?_)
  · have hf := zif_t hc hf
    refine lv_iconst (v := (1 : Int32)) hx hb dX9_drop_16 (by decide) ?_
    refine lv_goto (tgt := 41) hx hb dX9_drop_17 (by decide) ?_
    exact L41  _ _ _ _ _ _ _ hf B (lv_sub hl [0, 1, 2] rfl)
  · have hf := zif_f hc hf
    refine lv_aload_n hx hb dX9_drop_8 rfl (lv_at hl 0 rfl) ?_
    refine lv_iload_n hx hb dX9_drop_9 rfl (lv_at hl 2 rfl) ?_
    obtain ⟨r8, σ9, hu7, hf⟩ := zb_some hf
    refine x_i B (fun nb a g hs Bz => va_runV (As := [.int a2]) (rest := [.ref (ad 65)]) ⟨hx, hb, hml, hown, hts⟩ (c_X9_isToken l hu7 _ nb a g hs) (cwV 1 hts gX9_drop_X9_isToken rfl rfl rfl (by decide +kernel) ⟨Nat.le_of_ble_eq_true rfl, Nat.le_of_ble_eq_true rfl⟩) (x_preV Bz (by decide) (fun _ => rfl) rfl) rfl rfl hl.1 rfl (lv_room (Nat.le_of_ble_eq_true rfl)) dX9_drop_10 ⟨Nat.le_of_ble_eq_true rfl, Nat.le_of_ble_eq_true rfl⟩) (fun H locs B => ?_)
    refine lv_if_ne (tgt := 20) hx hb dX9_drop_13 (by decide) (fun hc => ?_) (fun hc => ?_)
    · have hf := zif_f hc hf
      refine lv_aload_n hx hb dX9_drop_20 rfl (lv_at hl 0 rfl) ?_
      refine x_getr hx hb hts hinRX9 hown B 65 0 66 (by decide) (by decide) (fun _ => rfl) rfl rfl (by decide) (by decide +kernel) rfl dX9_drop_21 ?_
      refine lv_bipush (v := (107 : Int32)) hx hb dX9_drop_24 (by decide) ?_
      refine lv_iload_n hx hb dX9_drop_26 rfl (lv_at hl 2 rfl) ?_
      refine lv_iadd hx hb dX9_drop_27 ?_
      obtain ⟨hg, hf⟩ := zg_some hf
      refine x_iald hx hb B 66 (by decide) (fun _ => rfl) (zin_ok hg) dX9_drop_28 ?_
      refine lv_iload_n hx hb dX9_drop_29 rfl (lv_at hl 1 rfl) ?_
      obtain ⟨r11, σ12, hu10, hf⟩ := zb_some hf
      refine x_i B (fun nb a g hs Bz => va_runS (As := [.int (σ9 66 ((107 : Int32) + a2).toNatClampNeg), .int a1]) (rest := [.ref (ad 65)]) ⟨hx, hb, hml, hown, hts⟩ (c_X9_has l hu10 _ nb a g hs) (va_cwS 2 hts gX9_drop_X9_has rfl rfl rfl (by decide +kernel) ⟨Nat.le_of_ble_eq_true rfl, Nat.le_of_ble_eq_true rfl⟩) (z_preS Bz) rfl rfl hl.1 rfl (lv_room (Nat.le_of_ble_eq_true rfl)) dX9_drop_30 ⟨Nat.le_of_ble_eq_true rfl, Nat.le_of_ble_eq_true rfl⟩) (fun H locs B => ?_)
      refine lv_if_eq (tgt := 40) hx hb dX9_drop_33 (by decide) (fun hc => ?_) (fun hc => ?_)
      · have hf := zif_t hc hf
        refine lv_iconst (v := (2 : Int32)) hx hb dX9_drop_40 (by decide) ?_
        exact L41  _ _ _ _ _ _ _ hf B (lv_sub hl [0, 1, 2] rfl)
      · have hf := zif_f hc hf
        refine lv_iconst (v := (0 : Int32)) hx hb dX9_drop_36 (by decide) ?_
        refine lv_goto (tgt := 41) hx hb dX9_drop_37 (by decide) ?_
        exact L41  _ _ _ _ _ _ _ hf B (lv_sub hl [0, 1, 2] rfl)
    · have hf := zif_t hc hf
      refine lv_iconst (v := (1 : Int32)) hx hb dX9_drop_16 (by decide) ?_
      refine lv_goto (tgt := 41) hx hb dX9_drop_17 (by decide) ?_
      exact L41  _ _ _ _ _ _ _ hf B (lv_sub hl [0, 1, 2] rfl)
theorem dX9_revoke_0 : decode cX9_revoke 0 = .ok (.aload_n 0, 1) := by decide +kernel
theorem dX9_revoke_1 : decode cX9_revoke 1 = .ok (.iload_n 1, 1) := by decide +kernel
theorem dX9_revoke_2 : decode cX9_revoke 2 = .ok (.invokestatic 78, 3) := by decide +kernel
theorem dX9_revoke_5 : decode cX9_revoke 5 = .ok (.ifCond .eq 15, 3) := by decide +kernel
theorem dX9_revoke_8 : decode cX9_revoke 8 = .ok (.aload_n 0, 1) := by decide +kernel
theorem dX9_revoke_9 : decode cX9_revoke 9 = .ok (.iload_n 2, 1) := by decide +kernel
theorem dX9_revoke_10 : decode cX9_revoke 10 = .ok (.invokevirtual 118, 3) := by decide +kernel
theorem dX9_revoke_13 : decode cX9_revoke 13 = .ok (.ifCond .eq 7, 3) := by decide +kernel
theorem dX9_revoke_16 : decode cX9_revoke 16 = .ok (.iconst 0, 1) := by decide +kernel
theorem dX9_revoke_17 : decode cX9_revoke 17 = .ok (.goto 4, 3) := by decide +kernel
theorem dX9_revoke_20 : decode cX9_revoke 20 = .ok (.iconst 1, 1) := by decide +kernel
theorem dX9_revoke_21 : decode cX9_revoke 21 = .ok (.putfield 41, 3) := by decide +kernel
theorem dX9_revoke_24 : decode cX9_revoke 24 = .ok (.aload_n 0, 1) := by decide +kernel
theorem dX9_revoke_25 : decode cX9_revoke 25 = .ok (.getfield 41, 3) := by decide +kernel
theorem dX9_revoke_28 : decode cX9_revoke 28 = .ok (.ifCond .eq 5, 3) := by decide +kernel
theorem dX9_revoke_31 : decode cX9_revoke 31 = .ok (.iconst 0, 1) := by decide +kernel
theorem dX9_revoke_32 : decode cX9_revoke 32 = .ok (.ireturn, 1) := by decide +kernel
theorem dX9_revoke_33 : decode cX9_revoke 33 = .ok (.iconst 0, 1) := by decide +kernel
theorem dX9_revoke_34 : decode cX9_revoke 34 = .ok (.istore_n 3, 1) := by decide +kernel
theorem dX9_revoke_35 : decode cX9_revoke 35 = .ok (.iload_n 2, 1) := by decide +kernel
theorem dX9_revoke_36 : decode cX9_revoke 36 = .ok (.istore 4, 2) := by decide +kernel
theorem dX9_revoke_38 : decode cX9_revoke 38 = .ok (.iload 4, 2) := by decide +kernel
theorem dX9_revoke_40 : decode cX9_revoke 40 = .ok (.ifCond .lt 35, 3) := by decide +kernel
theorem dX9_revoke_43 : decode cX9_revoke 43 = .ok (.iload_n 3, 1) := by decide +kernel
theorem dX9_revoke_44 : decode cX9_revoke 44 = .ok (.aload_n 0, 1) := by decide +kernel
theorem dX9_revoke_45 : decode cX9_revoke 45 = .ok (.getfield 9, 3) := by decide +kernel
theorem dX9_revoke_48 : decode cX9_revoke 48 = .ok (.bipush 107, 2) := by decide +kernel
theorem dX9_revoke_50 : decode cX9_revoke 50 = .ok (.iload 4, 2) := by decide +kernel
theorem dX9_revoke_52 : decode cX9_revoke 52 = .ok (.iadd, 1) := by decide +kernel
theorem dX9_revoke_53 : decode cX9_revoke 53 = .ok (.iaload, 1) := by decide +kernel
theorem dX9_revoke_54 : decode cX9_revoke 54 = .ok (.iload_n 1, 1) := by decide +kernel
theorem dX9_revoke_55 : decode cX9_revoke 55 = .ok (.invokestatic 59, 3) := by decide +kernel
theorem dX9_revoke_58 : decode cX9_revoke 58 = .ok (.ior, 1) := by decide +kernel
theorem dX9_revoke_59 : decode cX9_revoke 59 = .ok (.istore_n 3, 1) := by decide +kernel
theorem dX9_revoke_60 : decode cX9_revoke 60 = .ok (.aload_n 0, 1) := by decide +kernel
theorem dX9_revoke_61 : decode cX9_revoke 61 = .ok (.getfield 9, 3) := by decide +kernel
theorem dX9_revoke_64 : decode cX9_revoke 64 = .ok (.bipush 79, 2) := by decide +kernel
theorem dX9_revoke_66 : decode cX9_revoke 66 = .ok (.iload 4, 2) := by decide +kernel
theorem dX9_revoke_68 : decode cX9_revoke 68 = .ok (.iadd, 1) := by decide +kernel
theorem dX9_revoke_69 : decode cX9_revoke 69 = .ok (.iaload, 1) := by decide +kernel
theorem dX9_revoke_70 : decode cX9_revoke 70 = .ok (.istore 4, 2) := by decide +kernel
theorem dX9_revoke_72 : decode cX9_revoke 72 = .ok (.goto (-34), 3) := by decide +kernel
theorem dX9_revoke_75 : decode cX9_revoke 75 = .ok (.iload_n 3, 1) := by decide +kernel
theorem dX9_revoke_76 : decode cX9_revoke 76 = .ok (.ifCond .ne 16, 3) := by decide +kernel
theorem dX9_revoke_79 : decode cX9_revoke 79 = .ok (.aload_n 0, 1) := by decide +kernel
theorem dX9_revoke_80 : decode cX9_revoke 80 = .ok (.aload_n 0, 1) := by decide +kernel
theorem dX9_revoke_81 : decode cX9_revoke 81 = .ok (.iconst 1, 1) := by decide +kernel
theorem dX9_revoke_82 : decode cX9_revoke 82 = .ok (.iload_n 2, 1) := by decide +kernel
theorem dX9_revoke_83 : decode cX9_revoke 83 = .ok (.iconst 2, 1) := by decide +kernel
theorem dX9_revoke_84 : decode cX9_revoke 84 = .ok (.invokevirtual 63, 3) := by decide +kernel
theorem dX9_revoke_87 : decode cX9_revoke 87 = .ok (.putfield 41, 3) := by decide +kernel
theorem dX9_revoke_90 : decode cX9_revoke 90 = .ok (.iconst 0, 1) := by decide +kernel
theorem dX9_revoke_91 : decode cX9_revoke 91 = .ok (.ireturn, 1) := by decide +kernel
theorem dX9_revoke_92 : decode cX9_revoke 92 = .ok (.aload_n 0, 1) := by decide +kernel
theorem dX9_revoke_93 : decode cX9_revoke 93 = .ok (.getfield 9, 3) := by decide +kernel
theorem dX9_revoke_96 : decode cX9_revoke 96 = .ok (.sipush 135, 3) := by decide +kernel
theorem dX9_revoke_99 : decode cX9_revoke 99 = .ok (.iload_n 2, 1) := by decide +kernel
theorem dX9_revoke_100 : decode cX9_revoke 100 = .ok (.iadd, 1) := by decide +kernel
theorem dX9_revoke_101 : decode cX9_revoke 101 = .ok (.iaload, 1) := by decide +kernel
theorem dX9_revoke_102 : decode cX9_revoke 102 = .ok (.ifCond .lt 5, 3) := by decide +kernel
theorem dX9_revoke_105 : decode cX9_revoke 105 = .ok (.iconst 0, 1) := by decide +kernel
theorem dX9_revoke_106 : decode cX9_revoke 106 = .ok (.ireturn, 1) := by decide +kernel
theorem dX9_revoke_107 : decode cX9_revoke 107 = .ok (.aload_n 0, 1) := by decide +kernel
theorem dX9_revoke_108 : decode cX9_revoke 108 = .ok (.getfield 9, 3) := by decide +kernel
theorem dX9_revoke_111 : decode cX9_revoke 111 = .ok (.sipush 135, 3) := by decide +kernel
theorem dX9_revoke_114 : decode cX9_revoke 114 = .ok (.iload_n 2, 1) := by decide +kernel
theorem dX9_revoke_115 : decode cX9_revoke 115 = .ok (.iadd, 1) := by decide +kernel
theorem dX9_revoke_116 : decode cX9_revoke 116 = .ok (.iload_n 1, 1) := by decide +kernel
theorem dX9_revoke_117 : decode cX9_revoke 117 = .ok (.iastore, 1) := by decide +kernel
theorem dX9_revoke_118 : decode cX9_revoke 118 = .ok (.iconst 0, 1) := by decide +kernel
theorem dX9_revoke_119 : decode cX9_revoke 119 = .ok (.istore 4, 2) := by decide +kernel
theorem dX9_revoke_121 : decode cX9_revoke 121 = .ok (.iconst 0, 1) := by decide +kernel
theorem dX9_revoke_122 : decode cX9_revoke 122 = .ok (.istore 5, 2) := by decide +kernel
theorem dX9_revoke_124 : decode cX9_revoke 124 = .ok (.iload 5, 2) := by decide +kernel
theorem dX9_revoke_126 : decode cX9_revoke 126 = .ok (.aload_n 0, 1) := by decide +kernel
theorem dX9_revoke_127 : decode cX9_revoke 127 = .ok (.getfield 9, 3) := by decide +kernel
theorem dX9_revoke_130 : decode cX9_revoke 130 = .ok (.iconst 1, 1) := by decide +kernel
theorem dX9_revoke_131 : decode cX9_revoke 131 = .ok (.iaload, 1) := by decide +kernel
theorem dX9_revoke_132 : decode cX9_revoke 132 = .ok (.if_icmp .ge 39, 3) := by decide +kernel
theorem dX9_revoke_135 : decode cX9_revoke 135 = .ok (.iload 4, 2) := by decide +kernel
theorem dX9_revoke_137 : decode cX9_revoke 137 = .ok (.aload_n 0, 1) := by decide +kernel
theorem dX9_revoke_138 : decode cX9_revoke 138 = .ok (.iload 5, 2) := by decide +kernel
theorem dX9_revoke_140 : decode cX9_revoke 140 = .ok (.iload_n 2, 1) := by decide +kernel
theorem dX9_revoke_141 : decode cX9_revoke 141 = .ok (.invokevirtual 131, 3) := by decide +kernel
theorem dX9_revoke_144 : decode cX9_revoke 144 = .ok (.ifCond .eq 17, 3) := by decide +kernel
theorem dX9_revoke_147 : decode cX9_revoke 147 = .ok (.aload_n 0, 1) := by decide +kernel
theorem dX9_revoke_148 : decode cX9_revoke 148 = .ok (.iload 5, 2) := by decide +kernel
theorem dX9_revoke_150 : decode cX9_revoke 150 = .ok (.invokevirtual 134, 3) := by decide +kernel
theorem dX9_revoke_153 : decode cX9_revoke 153 = .ok (.iconst 1, 1) := by decide +kernel
theorem dX9_revoke_154 : decode cX9_revoke 154 = .ok (.if_icmp .ne 7, 3) := by decide +kernel
theorem dX9_revoke_157 : decode cX9_revoke 157 = .ok (.iconst 1, 1) := by decide +kernel
theorem dX9_revoke_158 : decode cX9_revoke 158 = .ok (.goto 4, 3) := by decide +kernel
theorem dX9_revoke_161 : decode cX9_revoke 161 = .ok (.iconst 0, 1) := by decide +kernel
theorem dX9_revoke_162 : decode cX9_revoke 162 = .ok (.iadd, 1) := by decide +kernel
theorem dX9_revoke_163 : decode cX9_revoke 163 = .ok (.istore 4, 2) := by decide +kernel
theorem dX9_revoke_165 : decode cX9_revoke 165 = .ok (.iinc 5 1, 3) := by decide +kernel
theorem dX9_revoke_168 : decode cX9_revoke 168 = .ok (.goto (-44), 3) := by decide +kernel
theorem dX9_revoke_171 : decode cX9_revoke 171 = .ok (.iload 4, 2) := by decide +kernel
theorem dX9_revoke_173 : decode cX9_revoke 173 = .ok (.ireturn, 1) := by decide +kernel
set_option maxRecDepth 20000 in
theorem ggX9_revoke_X9_isSubject : GoodIn wsX9_revoke wsX9_isSubject := goodIn_r _ [6, 7, 8, 5, 9] (by decide +kernel) (by decide +kernel)
set_option maxRecDepth 20000 in
theorem gX9_revoke_X9_isSubject : GoodIn wsX9_revoke (va_wsS RX9 78 yX9_isSubject wsX9_isSubject) := goodIn_app (goodIn_of _ (by decide +kernel)) ggX9_revoke_X9_isSubject
set_option maxRecDepth 20000 in
theorem ggX9_revoke_X9_isBelow : GoodIn wsX9_revoke wsX9_isBelow := goodIn_ca (goodIn_r _ [31, 2, 36, 37, 38, 39, 40, 41, 42, 43, 44, 45, 46, 47, 48, 49, 50, 51, 52, 53, 54, 55] (by decide +kernel) (by decide +kernel)) (goodIn_sub (fun _ h => List.mem_cons_of_mem _ (List.mem_append_right _ h)) (by decide +kernel))
set_option maxRecDepth 20000 in
theorem gX9_revoke_X9_isBelow : GoodIn wsX9_revoke (wsV RX9 131 RX9 yX9_isBelow wsX9_isBelow) := goodIn_app (goodIn_of _ (by decide +kernel)) ggX9_revoke_X9_isBelow
set_option maxRecDepth 20000 in
theorem ggX9_revoke_X9_revokedIn : GoodIn wsX9_revoke wsX9_revokedIn := goodIn_ca (goodIn_r _ [35, 2, 36, 37, 38, 39, 40, 41, 42, 43, 44, 45, 46, 47, 48, 49, 50, 51, 52, 53, 54, 55] (by decide +kernel) (by decide +kernel)) (goodIn_sub (fun _ h => List.mem_cons_of_mem _ (List.mem_append_right _ h)) (by decide +kernel))
set_option maxRecDepth 20000 in
theorem gX9_revoke_X9_revokedIn : GoodIn wsX9_revoke (wsV RX9 134 RX9 yX9_revokedIn wsX9_revokedIn) := goodIn_app (goodIn_of _ (by decide +kernel)) ggX9_revoke_X9_revokedIn
set_option maxRecDepth 20000 in
theorem ggX9_revoke_X9_reports : GoodIn wsX9_revoke wsX9_reports := goodIn_ca (goodIn_r _ [20, 21, 22, 23, 24, 5, 25, 26, 27, 36, 37, 38, 39, 40, 41, 42, 43, 44, 45, 46, 47, 48, 49, 50, 51, 52, 53, 54, 55] (by decide +kernel) (by decide +kernel)) (goodIn_sub (fun _ h => List.mem_cons_of_mem _ (List.mem_append_right _ h)) (by decide +kernel))
set_option maxRecDepth 20000 in
theorem gX9_revoke_X9_reports : GoodIn wsX9_revoke (wsV RX9 63 RX9 yX9_reports wsX9_reports) := goodIn_app (goodIn_of _ (by decide +kernel)) ggX9_revoke_X9_reports
set_option maxRecDepth 20000 in
theorem ggX9_revoke_X9_has : GoodIn wsX9_revoke wsX9_has := goodIn_r _ [16] (by decide +kernel) (by decide +kernel)
set_option maxRecDepth 20000 in
theorem gX9_revoke_X9_has : GoodIn wsX9_revoke (va_wsS RX9 59 yX9_has wsX9_has) := goodIn_app (goodIn_of _ (by decide +kernel)) ggX9_revoke_X9_has
set_option maxRecDepth 20000 in
theorem ggX9_revoke_X9_isToken : GoodIn wsX9_revoke wsX9_isToken := goodIn_ca (goodIn_r _ [13, 2, 7, 8, 5, 9, 36, 37, 38, 39, 40, 41, 42, 43, 44, 45, 46, 47, 48, 49, 50, 51, 52, 53, 54, 55] (by decide +kernel) (by decide +kernel)) (goodIn_sub (fun _ h => List.mem_cons_of_mem _ (List.mem_append_right _ h)) (by decide +kernel))
set_option maxRecDepth 20000 in
theorem gX9_revoke_X9_isToken : GoodIn wsX9_revoke (wsV RX9 118 RX9 yX9_isToken wsX9_isToken) := goodIn_app (goodIn_of _ (by decide +kernel)) ggX9_revoke_X9_isToken
def rm_X9_revoke : Room := { frames := 3, cells := 0, slots := 0, locals := 61 }
set_option maxHeartbeats 4000000 in
set_option maxRecDepth 100000 in
theorem c_X9_revoke (l : Launch) {G : zG} {ad : Nat → Nat} {σ σ' : zs} {a1 a2 : Int32} {r : Int32} (hf : f_X9_revoke σ a1 a2 = some (r, σ')) : xMi l yX9_revoke wsX9_revoke rm_X9_revoke G ad σ [.ref (ad 65), .int a1, .int a2] r σ' := by
  intro sz nb a g hs
  refine Met.ofW (cc := cX9_revoke) (maxL := 6) (ret := (some .int)) (by decide) rfl ?_
  intro p e s m args below meth c s₁ B hml hv
  obtain ⟨rfl, hsz, hv⟩ := hv
  have hx := B.exec
  have hb := B.bytes
  have hr := B.returns
  have hts := atoms_spec (ws := wsX9_revoke) B.pre
  have hown : s.vm.findClass RX9 = some m.cls := findClass_of_methodNamed B.named
  have hlocks := B.notSynchronized
  subst hsz
  have B := xB_start hs hv
  have hinRX9 : ∀ w ∈ wsX90, w ∈ wsX9_revoke := by decide +kernel
  have hl := lv_entry ([.ref (ad 65), .int a1, .int a2]) (n := 6) (Nat.le_of_ble_eq_true rfl)
  rw [lg_entry_eq]
  generalize (lg_sl ([.ref (ad 65), .int a1, .int a2]) ++ List.replicate (6 - (lg_sl ([.ref (ad 65), .int a1, .int a2])).length) Slot.unset).toArray = ls at hl ⊢
  have hl : lv_has ls 6 [(0, .ref (ad 65)), (1, .int a1), (2, .int a2)] := hl
  generalize hAe : xA ad a s.heap.size = A at B ⊢
  have L162 : ∀ (K124 : zs → Int32 → Int32 → Int32 → Option (Int32 × zs)) (hK124 : ∀ (σ : zs) (v2 : Int32) (v4 : Int32) (v5 : Int32) (H : Heap) (locs : List Loc) (ls : Array Slot), K124 σ v2 v4 v5 = some (r, σ') → xB A s G ad σ H locs → lv_has ls 6 [(0, .ref (ad 65)), (2, .int v2), (4, .int v4), (5, .int v5)] → W p l e (headSpec wsX9_revoke rm_X9_revoke).room s m ([.ref (ad 65), .int a1, .int a2] : List Value).toArray below meth c H locs 0 0 (MQ below (va_Qi (fun r' (u : xV) => r' = r ∧ xQ σ' u) (xPost G ad σ' A) A) ([.ref (ad 65), .int a1, .int a2] : List Value).toArray s 0 0 A) (F0 m 124 ls [])) (σ : zs) (v2 : Int32) (v5 : Int32) (s0 : Int32) (s1 : Int32) (H : Heap) (locs : List Loc) (ls : Array Slot), f_X9_revoke_162 K124 σ v2 v5 s0 s1 = some (r, σ') → xB A s G ad σ H locs → lv_has ls 6 [(0, .ref (ad 65)), (2, .int v2), (5, .int v5)] → W p l e (headSpec wsX9_revoke rm_X9_revoke).room s m ([.ref (ad 65), .int a1, .int a2] : List Value).toArray below meth c H locs 0 0 (MQ below (va_Qi (fun r' (u : xV) => r' = r ∧ xQ σ' u) (xPost G ad σ' A) A) ([.ref (ad 65), .int a1, .int a2] : List Value).toArray s 0 0 A) (F0 m 162 ls [.int s0, .int s1]) := by
    intro K124 hK124 σ v2 v5 s0 s1 H locs ls hf B hl
    unfold f_X9_revoke_162 at hf
    refine lv_iadd hx hb dX9_revoke_162 ?_
    refine lv_istore (lv' := [(4, .int (s1 + s0)), (0, .ref (ad 65)), (2, .int v2), (5, .int v5)]) hx hb dX9_revoke_163 hl (by decide) rfl (fun ls hl => ?_)
    refine lv_iinc (v := (v5 + (1 : Int32))) (lv' := [(5, .int (v5 + (1 : Int32))), (4, .int (s1 + s0)), (0, .ref (ad 65)), (2, .int v2)]) hx hb dX9_revoke_165 hl (k := 3) rfl (zc1 (by decide)) (by decide) rfl (fun ls hl => ?_)
    refine lv_goto (tgt := 124) hx hb dX9_revoke_168 (by decide) ?_
    exact hK124 _ _ _ _ _ _ _ hf B (lv_sub hl [2, 3, 1, 0] rfl)
  have L124 : ∀ (n : Nat) (σ : zs) (v2 : Int32) (v4 : Int32) (v5 : Int32) (H : Heap) (locs : List Loc) (ls : Array Slot), zlp3 (f_X9_revoke_124) n σ v2 v4 v5 = some (r, σ') → xB A s G ad σ H locs → lv_has ls 6 [(0, .ref (ad 65)), (2, .int v2), (4, .int v4), (5, .int v5)] → W p l e (headSpec wsX9_revoke rm_X9_revoke).room s m ([.ref (ad 65), .int a1, .int a2] : List Value).toArray below meth c H locs 0 0 (MQ below (va_Qi (fun r' (u : xV) => r' = r ∧ xQ σ' u) (xPost G ad σ' A) A) ([.ref (ad 65), .int a1, .int a2] : List Value).toArray s 0 0 A) (F0 m 124 ls []) := by
    intro n
    induction n with
    | zero =>
      intro σ v2 v4 v5 H locs ls hf
      cases hf
    | succ n ih =>
      intro σ v2 v4 v5 H locs ls hf B hl
      have hf : f_X9_revoke_124 (zlp3 (f_X9_revoke_124) n) σ v2 v4 v5 = some (r, σ') := hf
      unfold f_X9_revoke_124 at hf
      refine lv_iload hx hb dX9_revoke_124 (lv_at hl 3 rfl) ?_
      refine lv_aload_n hx hb dX9_revoke_126 rfl (lv_at hl 0 rfl) ?_
      refine x_getr hx hb hts hinRX9 hown B 65 0 66 (by decide) (by decide) (fun _ => rfl) rfl rfl (by decide) (by decide +kernel) rfl dX9_revoke_127 ?_
      refine lv_iconst (v := (1 : Int32)) hx hb dX9_revoke_130 (by decide) ?_
      obtain ⟨hg, hf⟩ := zg_some hf
      refine x_iald hx hb B 66 (by decide) (fun _ => rfl) (zin_ok hg) dX9_revoke_131 ?_
      refine lv_icmp_ge (tgt := 171) hx hb dX9_revoke_132 (by decide) (fun hc => ?_) (fun hc => ?_)
      · have hf := zif_t hc hf
        refine lv_iload hx hb dX9_revoke_171 (lv_at hl 2 rfl) ?_
        refine W.widen (k := 0) (n := 0) (Nat.le_of_ble_eq_true rfl) (Nat.le_of_ble_eq_true rfl) ?_
        exact x_iret hx hb hr rfl hlocks B hf dX9_revoke_173
      · have hf := zif_f hc hf
        refine lv_iload hx hb dX9_revoke_135 (lv_at hl 2 rfl) ?_
        refine lv_aload_n hx hb dX9_revoke_137 rfl (lv_at hl 0 rfl) ?_
        refine lv_iload hx hb dX9_revoke_138 (lv_at hl 3 rfl) ?_
        refine lv_iload_n hx hb dX9_revoke_140 rfl (lv_at hl 1 rfl) ?_
        obtain ⟨r5, σ6, hu4, hf⟩ := zb_some hf
        refine x_i B (fun nb a g hs Bz => va_runV (As := [.int v5, .int v2]) (rest := [.int v4]) ⟨hx, hb, hml, hown, hts⟩ (c_X9_isBelow l hu4 _ nb a g hs) (cwV 2 hts gX9_revoke_X9_isBelow rfl rfl rfl (by decide +kernel) ⟨Nat.le_of_ble_eq_true rfl, Nat.le_of_ble_eq_true rfl⟩) (x_preV Bz (by decide) (fun _ => rfl) rfl) rfl rfl hl.1 rfl (lv_room (Nat.le_of_ble_eq_true rfl)) dX9_revoke_141 ⟨Nat.le_of_ble_eq_true rfl, Nat.le_of_ble_eq_true rfl⟩) (fun H locs B => ?_)
        refine lv_if_eq (tgt := 161) hx hb dX9_revoke_144 (by decide) (fun hc => ?_) (fun hc => ?_)
        · have hf := zif_t hc hf
          refine lv_iconst (v := (0 : Int32)) hx hb dX9_revoke_161 (by decide) ?_
          exact L162 _ ih  _ _ _ _ _ _ _ _ hf B (lv_sub hl [0, 1, 3] rfl)
        · have hf := zif_f hc hf
          refine lv_aload_n hx hb dX9_revoke_147 rfl (lv_at hl 0 rfl) ?_
          refine lv_iload hx hb dX9_revoke_148 (lv_at hl 3 rfl) ?_
          obtain ⟨r8, σ9, hu7, hf⟩ := zb_some hf
          refine x_i B (fun nb a g hs Bz => va_runV (As := [.int v5]) (rest := [.int v4]) ⟨hx, hb, hml, hown, hts⟩ (c_X9_revokedIn l hu7 _ nb a g hs) (cwV 1 hts gX9_revoke_X9_revokedIn rfl rfl rfl (by decide +kernel) ⟨Nat.le_of_ble_eq_true rfl, Nat.le_of_ble_eq_true rfl⟩) (x_preV Bz (by decide) (fun _ => rfl) rfl) rfl rfl hl.1 rfl (lv_room (Nat.le_of_ble_eq_true rfl)) dX9_revoke_150 ⟨Nat.le_of_ble_eq_true rfl, Nat.le_of_ble_eq_true rfl⟩) (fun H locs B => ?_)
          refine lv_iconst (v := (1 : Int32)) hx hb dX9_revoke_153 (by decide) ?_
          refine lv_icmp_ne (tgt := 161) hx hb dX9_revoke_154 (by decide) (fun hc => ?_) (fun hc => ?_)
          · have hf := zif_f hc hf
            refine lv_iconst (v := (0 : Int32)) hx hb dX9_revoke_161 (by decide) ?_
            exact L162 _ ih  _ _ _ _ _ _ _ _ hf B (lv_sub hl [0, 1, 3] rfl)
          · have hf := zif_t hc hf
            refine lv_iconst (v := (1 : Int32)) hx hb dX9_revoke_157 (by decide) ?_
            refine lv_goto (tgt := 162) hx hb dX9_revoke_158 (by decide) ?_
            exact L162 _ ih  _ _ _ _ _ _ _ _ hf B (lv_sub hl [0, 1, 3] rfl)
  have L38 : ∀ (n : Nat) (σ : zs) (v1 : Int32) (v2 : Int32) (v3 : Int32) (v4 : Int32) (H : Heap) (locs : List Loc) (ls : Array Slot), zlp4 (f_X9_revoke_38) n σ v1 v2 v3 v4 = some (r, σ') → xB A s G ad σ H locs → lv_has ls 6 [(0, .ref (ad 65)), (1, .int v1), (2, .int v2), (3, .int v3), (4, .int v4)] → W p l e (headSpec wsX9_revoke rm_X9_revoke).room s m ([.ref (ad 65), .int a1, .int a2] : List Value).toArray below meth c H locs 0 0 (MQ below (va_Qi (fun r' (u : xV) => r' = r ∧ xQ σ' u) (xPost G ad σ' A) A) ([.ref (ad 65), .int a1, .int a2] : List Value).toArray s 0 0 A) (F0 m 38 ls []) := by
    intro n
    induction n with
    | zero =>
      intro σ v1 v2 v3 v4 H locs ls hf
      cases hf
    | succ n ih =>
      intro σ v1 v2 v3 v4 H locs ls hf B hl
      have hf : f_X9_revoke_38 (zlp4 (f_X9_revoke_38) n) σ v1 v2 v3 v4 = some (r, σ') := hf
      unfold f_X9_revoke_38 at hf
      refine lv_iload hx hb dX9_revoke_38 (lv_at hl 4 rfl) ?_
      refine lv_if_lt (tgt := 75) hx hb dX9_revoke_40 (by decide) (fun hc => ?_) (fun hc => ?_)
      · have hf := zif_t hc hf
        refine lv_iload_n hx hb dX9_revoke_75 rfl (lv_at hl 3 rfl) ?_
        refine lv_if_ne (tgt := 92) hx hb dX9_revoke_76 (by decide) (fun hc => ?_) (fun hc => ?_)
        · have hf := zif_f hc hf
          refine lv_aload_n hx hb dX9_revoke_92 rfl (lv_at hl 0 rfl) ?_
          refine x_getr hx hb hts hinRX9 hown B 65 0 66 (by decide) (by decide) (fun _ => rfl) rfl rfl (by decide) (by decide +kernel) rfl dX9_revoke_93 ?_
          refine lv_sipush (v := (135 : Int32)) hx hb dX9_revoke_96 (by decide) ?_
          refine lv_iload_n hx hb dX9_revoke_99 rfl (lv_at hl 2 rfl) ?_
          refine lv_iadd hx hb dX9_revoke_100 ?_
          obtain ⟨hg, hf⟩ := zg_some hf
          refine x_iald hx hb B 66 (by decide) (fun _ => rfl) (zin_ok hg) dX9_revoke_101 ?_
          refine lv_if_lt (tgt := 107) hx hb dX9_revoke_102 (by decide) (fun hc => ?_) (fun hc => ?_)
          · have hf := zif_t hc hf
            refine lv_aload_n hx hb dX9_revoke_107 rfl (lv_at hl 0 rfl) ?_
            refine x_getr hx hb hts hinRX9 hown B 65 0 66 (by decide) (by decide) (fun _ => rfl) rfl rfl (by decide) (by decide +kernel) rfl dX9_revoke_108 ?_
            refine lv_sipush (v := (135 : Int32)) hx hb dX9_revoke_111 (by decide) ?_
            refine lv_iload_n hx hb dX9_revoke_114 rfl (lv_at hl 2 rfl) ?_
            refine lv_iadd hx hb dX9_revoke_115 ?_
            refine lv_iload_n hx hb dX9_revoke_116 rfl (lv_at hl 1 rfl) ?_
            obtain ⟨hg, hf⟩ := zg_some hf
            refine x_iast hx hb B 66 (by decide) (by decide) (fun _ => rfl) (zin_ok hg) dX9_revoke_117 (fun H locs B => ?_)
            refine lv_iconst (v := (0 : Int32)) hx hb dX9_revoke_118 (by decide) ?_
            refine lv_istore (lv' := [(4, .int (0 : Int32)), (0, .ref (ad 65)), (1, .int v1), (2, .int v2), (3, .int v3)]) hx hb dX9_revoke_119 hl (by decide) rfl (fun ls hl => ?_)
            refine lv_iconst (v := (0 : Int32)) hx hb dX9_revoke_121 (by decide) ?_
            refine lv_istore (lv' := [(5, .int (0 : Int32)), (4, .int (0 : Int32)), (0, .ref (ad 65)), (1, .int v1), (2, .int v2), (3, .int v3)]) hx hb dX9_revoke_122 hl (by decide) rfl (fun ls hl => ?_)
            exact L124  _ _ _ _ _ _ _ _ hf B (lv_sub hl [2, 4, 1, 0] rfl)
          · have hf := zif_f hc hf
            refine lv_iconst (v := (0 : Int32)) hx hb dX9_revoke_105 (by decide) ?_
            refine W.widen (k := 0) (n := 0) (Nat.le_of_ble_eq_true rfl) (Nat.le_of_ble_eq_true rfl) ?_
            exact x_iret hx hb hr rfl hlocks B hf dX9_revoke_106
        · have hf := zif_t hc hf
          refine lv_aload_n hx hb dX9_revoke_79 rfl (lv_at hl 0 rfl) ?_
          refine lv_aload_n hx hb dX9_revoke_80 rfl (lv_at hl 0 rfl) ?_
          refine lv_iconst (v := (1 : Int32)) hx hb dX9_revoke_81 (by decide) ?_
          refine lv_iload_n hx hb dX9_revoke_82 rfl (lv_at hl 2 rfl) ?_
          refine lv_iconst (v := (2 : Int32)) hx hb dX9_revoke_83 (by decide) ?_
          obtain ⟨r11, σ12, hu10, hf⟩ := zb_some hf
          refine x_i B (fun nb a g hs Bz => va_runV (As := [.int (1 : Int32), .int v2, .int (2 : Int32)]) (rest := [.ref (ad 65)]) ⟨hx, hb, hml, hown, hts⟩ (c_X9_reports l hu10 _ nb a g hs) (cwV 3 hts gX9_revoke_X9_reports rfl rfl rfl (by decide +kernel) ⟨Nat.le_of_ble_eq_true rfl, Nat.le_of_ble_eq_true rfl⟩) (x_preV Bz (by decide) (fun _ => rfl) rfl) rfl rfl hl.1 rfl (lv_room (Nat.le_of_ble_eq_true rfl)) dX9_revoke_84 ⟨Nat.le_of_ble_eq_true rfl, Nat.le_of_ble_eq_true rfl⟩) (fun H locs B => ?_)
          refine x_puti hx hb hts hinRX9 hown tyX9 tyX9_ok nmX9 B 65 3 (by decide) (by decide) (fun _ => rfl) rfl rfl (by decide) (by decide +kernel) rfl rfl rfl rfl dX9_revoke_87 (fun H locs B => ?_)
          refine lv_iconst (v := (0 : Int32)) hx hb dX9_revoke_90 (by decide) ?_
          refine W.widen (k := 0) (n := 0) (Nat.le_of_ble_eq_true rfl) (Nat.le_of_ble_eq_true rfl) ?_
          exact x_iret hx hb hr rfl hlocks B hf dX9_revoke_91
      · have hf := zif_f hc hf
        refine lv_iload_n hx hb dX9_revoke_43 rfl (lv_at hl 3 rfl) ?_
        refine lv_aload_n hx hb dX9_revoke_44 rfl (lv_at hl 0 rfl) ?_
        refine x_getr hx hb hts hinRX9 hown B 65 0 66 (by decide) (by decide) (fun _ => rfl) rfl rfl (by decide) (by decide +kernel) rfl dX9_revoke_45 ?_
        refine lv_bipush (v := (107 : Int32)) hx hb dX9_revoke_48 (by decide) ?_
        refine lv_iload hx hb dX9_revoke_50 (lv_at hl 4 rfl) ?_
        refine lv_iadd hx hb dX9_revoke_52 ?_
        obtain ⟨hg, hf⟩ := zg_some hf
        refine x_iald hx hb B 66 (by decide) (fun _ => rfl) (zin_ok hg) dX9_revoke_53 ?_
        refine lv_iload_n hx hb dX9_revoke_54 rfl (lv_at hl 1 rfl) ?_
        obtain ⟨r14, σ15, hu13, hf⟩ := zb_some hf
        refine x_i B (fun nb a g hs Bz => va_runS (As := [.int (σ 66 ((107 : Int32) + v4).toNatClampNeg), .int v1]) (rest := [.int v3]) ⟨hx, hb, hml, hown, hts⟩ (c_X9_has l hu13 _ nb a g hs) (va_cwS 2 hts gX9_revoke_X9_has rfl rfl rfl (by decide +kernel) ⟨Nat.le_of_ble_eq_true rfl, Nat.le_of_ble_eq_true rfl⟩) (z_preS Bz) rfl rfl hl.1 rfl (lv_room (Nat.le_of_ble_eq_true rfl)) dX9_revoke_55 ⟨Nat.le_of_ble_eq_true rfl, Nat.le_of_ble_eq_true rfl⟩) (fun H locs B => ?_)
        refine lv_ior hx hb dX9_revoke_58 ?_
        refine lv_istore_n (lv' := [(3, .int (v3 ||| r14)), (0, .ref (ad 65)), (1, .int v1), (2, .int v2), (4, .int v4)]) hx hb dX9_revoke_59 rfl hl (by decide) rfl (fun ls hl => ?_)
        refine lv_aload_n hx hb dX9_revoke_60 rfl (lv_at hl 1 rfl) ?_
        refine x_getr hx hb hts hinRX9 hown B 65 0 66 (by decide) (by decide) (fun _ => rfl) rfl rfl (by decide) (by decide +kernel) rfl dX9_revoke_61 ?_
        refine lv_bipush (v := (79 : Int32)) hx hb dX9_revoke_64 (by decide) ?_
        refine lv_iload hx hb dX9_revoke_66 (lv_at hl 4 rfl) ?_
        refine lv_iadd hx hb dX9_revoke_68 ?_
        obtain ⟨hg, hf⟩ := zg_some hf
        refine x_iald hx hb B 66 (by decide) (fun _ => rfl) (zin_ok hg) dX9_revoke_69 ?_
        refine lv_istore (lv' := [(4, .int (σ15 66 ((79 : Int32) + v4).toNatClampNeg)), (3, .int (v3 ||| r14)), (0, .ref (ad 65)), (1, .int v1), (2, .int v2)]) hx hb dX9_revoke_70 hl (by decide) rfl (fun ls hl => ?_)
        refine lv_goto (tgt := 38) hx hb dX9_revoke_72 (by decide) ?_
        exact ih _ _ _ _ _ _ _ _ hf B (lv_sub hl [2, 3, 4, 1, 0] rfl)
  have L21 : ∀ (σ : zs) (v1 : Int32) (v2 : Int32) (s0 : Int32) (H : Heap) (locs : List Loc) (ls : Array Slot), f_X9_revoke_21 σ v1 v2 s0 = some (r, σ') → xB A s G ad σ H locs → lv_has ls 6 [(0, .ref (ad 65)), (1, .int v1), (2, .int v2)] → W p l e (headSpec wsX9_revoke rm_X9_revoke).room s m ([.ref (ad 65), .int a1, .int a2] : List Value).toArray below meth c H locs 0 0 (MQ below (va_Qi (fun r' (u : xV) => r' = r ∧ xQ σ' u) (xPost G ad σ' A) A) ([.ref (ad 65), .int a1, .int a2] : List Value).toArray s 0 0 A) (F0 m 21 ls [.int s0, .ref (ad 65)]) := by
    intro σ v1 v2 s0 H locs ls hf B hl
    unfold f_X9_revoke_21 at hf
    refine x_puti hx hb hts hinRX9 hown tyX9 tyX9_ok nmX9 B 65 3 (by decide) (by decide) (fun _ => rfl) rfl rfl (by decide) (by decide +kernel) rfl rfl rfl rfl dX9_revoke_21 (fun H locs B => ?_)
    refine lv_aload_n hx hb dX9_revoke_24 rfl (lv_at hl 0 rfl) ?_
    refine x_geti hx hb hts hinRX9 hown B 65 3 (by decide) (fun _ => rfl) rfl rfl (by decide) (by decide +kernel) rfl dX9_revoke_25 ?_
    refine lv_if_eq (tgt := 33) hx hb dX9_revoke_28 (by decide) (fun hc => ?_) (fun hc => ?_)
    · have hf := zif_t hc hf
      refine lv_iconst (v := (0 : Int32)) hx hb dX9_revoke_33 (by decide) ?_
      refine lv_istore_n (lv' := [(3, .int (0 : Int32)), (0, .ref (ad 65)), (1, .int v1), (2, .int v2)]) hx hb dX9_revoke_34 rfl hl (by decide) rfl (fun ls hl => ?_)
      refine lv_iload_n hx hb dX9_revoke_35 rfl (lv_at hl 3 rfl) ?_
      refine lv_istore (lv' := [(4, .int v2), (3, .int (0 : Int32)), (0, .ref (ad 65)), (1, .int v1), (2, .int v2)]) hx hb dX9_revoke_36 hl (by decide) rfl (fun ls hl => ?_)
      exact L38  _ _ _ _ _ _ _ _ _ hf B (lv_sub hl [2, 3, 4, 1, 0] rfl)
    · have hf := zif_f hc hf
      refine lv_iconst (v := (0 : Int32)) hx hb dX9_revoke_31 (by decide) ?_
      refine W.widen (k := 0) (n := 0) (Nat.le_of_ble_eq_true rfl) (Nat.le_of_ble_eq_true rfl) ?_
      exact x_iret hx hb hr rfl hlocks B hf dX9_revoke_32
  unfold f_X9_revoke at hf
  refine lv_aload_n hx hb dX9_revoke_0 rfl (lv_at hl 0 rfl) ?_
  refine lv_iload_n hx hb dX9_revoke_1 rfl (lv_at hl 1 rfl) ?_
  obtain ⟨r2, σ3, hu1, hf⟩ := zb_some hf
  refine x_i B (fun nb a g hs Bz => va_runS (As := [.int a1]) (rest := [.ref (ad 65)]) ⟨hx, hb, hml, hown, hts⟩ (c_X9_isSubject l hu1 _ nb a g hs) (va_cwS 1 hts gX9_revoke_X9_isSubject rfl rfl rfl (by decide +kernel) ⟨Nat.le_of_ble_eq_true rfl, Nat.le_of_ble_eq_true rfl⟩) (z_preS Bz) rfl rfl hl.1 rfl (lv_room (Nat.le_of_ble_eq_true rfl)) dX9_revoke_2 ⟨Nat.le_of_ble_eq_true rfl, Nat.le_of_ble_eq_true rfl⟩) (fun H locs B => ?_)
  refine lv_if_eq (tgt := 20) hx hb dX9_revoke_5 (by decide) (fun hc => ?_) (fun hc => ?_)
  · have hf := zif_t hc hf
    refine lv_iconst (v := (1 : Int32)) hx hb dX9_revoke_20 (by decide) ?_
    exact L21  _ _ _ _ _ _ _ hf B (lv_sub hl [0, 1, 2] rfl)
  · have hf := zif_f hc hf
    refine lv_aload_n hx hb dX9_revoke_8 rfl (lv_at hl 0 rfl) ?_
    refine lv_iload_n hx hb dX9_revoke_9 rfl (lv_at hl 2 rfl) ?_
    obtain ⟨r17, σ18, hu16, hf⟩ := zb_some hf
    refine x_i B (fun nb a g hs Bz => va_runV (As := [.int a2]) (rest := [.ref (ad 65)]) ⟨hx, hb, hml, hown, hts⟩ (c_X9_isToken l hu16 _ nb a g hs) (cwV 1 hts gX9_revoke_X9_isToken rfl rfl rfl (by decide +kernel) ⟨Nat.le_of_ble_eq_true rfl, Nat.le_of_ble_eq_true rfl⟩) (x_preV Bz (by decide) (fun _ => rfl) rfl) rfl rfl hl.1 rfl (lv_room (Nat.le_of_ble_eq_true rfl)) dX9_revoke_10 ⟨Nat.le_of_ble_eq_true rfl, Nat.le_of_ble_eq_true rfl⟩) (fun H locs B => ?_)
    refine lv_if_eq (tgt := 20) hx hb dX9_revoke_13 (by decide) (fun hc => ?_) (fun hc => ?_)
    · have hf := zif_t hc hf
      refine lv_iconst (v := (1 : Int32)) hx hb dX9_revoke_20 (by decide) ?_
      exact L21  _ _ _ _ _ _ _ hf B (lv_sub hl [0, 1, 2] rfl)
    · have hf := zif_f hc hf
      refine lv_iconst (v := (0 : Int32)) hx hb dX9_revoke_16 (by decide) ?_
      refine lv_goto (tgt := 21) hx hb dX9_revoke_17 (by decide) ?_
      exact L21  _ _ _ _ _ _ _ hf B (lv_sub hl [0, 1, 2] rfl)
theorem dX9_children_0 : decode cX9_children 0 = .ok (.iconst 0, 1) := by decide +kernel
theorem dX9_children_1 : decode cX9_children 1 = .ok (.istore_n 2, 1) := by decide +kernel
theorem dX9_children_2 : decode cX9_children 2 = .ok (.iconst 0, 1) := by decide +kernel
theorem dX9_children_3 : decode cX9_children 3 = .ok (.istore_n 3, 1) := by decide +kernel
theorem dX9_children_4 : decode cX9_children 4 = .ok (.iload_n 3, 1) := by decide +kernel
theorem dX9_children_5 : decode cX9_children 5 = .ok (.aload_n 0, 1) := by decide +kernel
theorem dX9_children_6 : decode cX9_children 6 = .ok (.getfield 9, 3) := by decide +kernel
theorem dX9_children_9 : decode cX9_children 9 = .ok (.iconst 1, 1) := by decide +kernel
theorem dX9_children_10 : decode cX9_children 10 = .ok (.iaload, 1) := by decide +kernel
theorem dX9_children_11 : decode cX9_children 11 = .ok (.if_icmp .ge 30, 3) := by decide +kernel
theorem dX9_children_14 : decode cX9_children 14 = .ok (.iload_n 2, 1) := by decide +kernel
theorem dX9_children_15 : decode cX9_children 15 = .ok (.aload_n 0, 1) := by decide +kernel
theorem dX9_children_16 : decode cX9_children 16 = .ok (.getfield 9, 3) := by decide +kernel
theorem dX9_children_19 : decode cX9_children 19 = .ok (.bipush 79, 2) := by decide +kernel
theorem dX9_children_21 : decode cX9_children 21 = .ok (.iload_n 3, 1) := by decide +kernel
theorem dX9_children_22 : decode cX9_children 22 = .ok (.iadd, 1) := by decide +kernel
theorem dX9_children_23 : decode cX9_children 23 = .ok (.iaload, 1) := by decide +kernel
theorem dX9_children_24 : decode cX9_children 24 = .ok (.iload_n 1, 1) := by decide +kernel
theorem dX9_children_25 : decode cX9_children 25 = .ok (.if_icmp .ne 7, 3) := by decide +kernel
theorem dX9_children_28 : decode cX9_children 28 = .ok (.iconst 1, 1) := by decide +kernel
theorem dX9_children_29 : decode cX9_children 29 = .ok (.goto 4, 3) := by decide +kernel
theorem dX9_children_32 : decode cX9_children 32 = .ok (.iconst 0, 1) := by decide +kernel
theorem dX9_children_33 : decode cX9_children 33 = .ok (.iadd, 1) := by decide +kernel
theorem dX9_children_34 : decode cX9_children 34 = .ok (.istore_n 2, 1) := by decide +kernel
theorem dX9_children_35 : decode cX9_children 35 = .ok (.iinc 3 1, 3) := by decide +kernel
theorem dX9_children_38 : decode cX9_children 38 = .ok (.goto (-34), 3) := by decide +kernel
theorem dX9_children_41 : decode cX9_children 41 = .ok (.iload_n 2, 1) := by decide +kernel
theorem dX9_children_42 : decode cX9_children 42 = .ok (.ireturn, 1) := by decide +kernel
def rm_X9_children : Room := { frames := 1, cells := 0, slots := 0, locals := 16 }
set_option maxHeartbeats 4000000 in
set_option maxRecDepth 100000 in
theorem c_X9_children (l : Launch) {G : zG} {ad : Nat → Nat} {σ σ' : zs} {a1 : Int32} {r : Int32} (hf : f_X9_children σ a1 = some (r, σ')) : xMi l yX9_children wsX9_children rm_X9_children G ad σ [.ref (ad 65), .int a1] r σ' := by
  intro sz nb a g hs
  refine Met.ofW (cc := cX9_children) (maxL := 4) (ret := (some .int)) (by decide) rfl ?_
  intro p e s m args below meth c s₁ B hml hv
  obtain ⟨rfl, hsz, hv⟩ := hv
  have hx := B.exec
  have hb := B.bytes
  have hr := B.returns
  have hts := atoms_spec (ws := wsX9_children) B.pre
  have hown : s.vm.findClass RX9 = some m.cls := findClass_of_methodNamed B.named
  have hlocks := B.notSynchronized
  subst hsz
  have B := xB_start hs hv
  have hinRX9 : ∀ w ∈ wsX90, w ∈ wsX9_children := by decide +kernel
  have hl := lv_entry ([.ref (ad 65), .int a1]) (n := 4) (Nat.le_of_ble_eq_true rfl)
  rw [lg_entry_eq]
  generalize (lg_sl ([.ref (ad 65), .int a1]) ++ List.replicate (4 - (lg_sl ([.ref (ad 65), .int a1])).length) Slot.unset).toArray = ls at hl ⊢
  have hl : lv_has ls 4 [(0, .ref (ad 65)), (1, .int a1)] := hl
  generalize hAe : xA ad a s.heap.size = A at B ⊢
  have L33 : ∀ (K4 : zs → Int32 → Int32 → Int32 → Option (Int32 × zs)) (hK4 : ∀ (σ : zs) (v1 : Int32) (v2 : Int32) (v3 : Int32) (H : Heap) (locs : List Loc) (ls : Array Slot), K4 σ v1 v2 v3 = some (r, σ') → xB A s G ad σ H locs → lv_has ls 4 [(0, .ref (ad 65)), (1, .int v1), (2, .int v2), (3, .int v3)] → W p l e (headSpec wsX9_children rm_X9_children).room s m ([.ref (ad 65), .int a1] : List Value).toArray below meth c H locs 0 0 (MQ below (va_Qi (fun r' (u : xV) => r' = r ∧ xQ σ' u) (xPost G ad σ' A) A) ([.ref (ad 65), .int a1] : List Value).toArray s 0 0 A) (F0 m 4 ls [])) (σ : zs) (v1 : Int32) (v3 : Int32) (s0 : Int32) (s1 : Int32) (H : Heap) (locs : List Loc) (ls : Array Slot), f_X9_children_33 K4 σ v1 v3 s0 s1 = some (r, σ') → xB A s G ad σ H locs → lv_has ls 4 [(0, .ref (ad 65)), (1, .int v1), (3, .int v3)] → W p l e (headSpec wsX9_children rm_X9_children).room s m ([.ref (ad 65), .int a1] : List Value).toArray below meth c H locs 0 0 (MQ below (va_Qi (fun r' (u : xV) => r' = r ∧ xQ σ' u) (xPost G ad σ' A) A) ([.ref (ad 65), .int a1] : List Value).toArray s 0 0 A) (F0 m 33 ls [.int s0, .int s1]) := by
    intro K4 hK4 σ v1 v3 s0 s1 H locs ls hf B hl
    unfold f_X9_children_33 at hf
    refine lv_iadd hx hb dX9_children_33 ?_
    refine lv_istore_n (lv' := [(2, .int (s1 + s0)), (0, .ref (ad 65)), (1, .int v1), (3, .int v3)]) hx hb dX9_children_34 rfl hl (by decide) rfl (fun ls hl => ?_)
    refine lv_iinc (v := (v3 + (1 : Int32))) (lv' := [(3, .int (v3 + (1 : Int32))), (2, .int (s1 + s0)), (0, .ref (ad 65)), (1, .int v1)]) hx hb dX9_children_35 hl (k := 3) rfl (zc1 (by decide)) (by decide) rfl (fun ls hl => ?_)
    refine lv_goto (tgt := 4) hx hb dX9_children_38 (by decide) ?_
    exact hK4 _ _ _ _ _ _ _ hf B (lv_sub hl [2, 3, 1, 0] rfl)
  have L4 : ∀ (n : Nat) (σ : zs) (v1 : Int32) (v2 : Int32) (v3 : Int32) (H : Heap) (locs : List Loc) (ls : Array Slot), zlp3 (f_X9_children_4) n σ v1 v2 v3 = some (r, σ') → xB A s G ad σ H locs → lv_has ls 4 [(0, .ref (ad 65)), (1, .int v1), (2, .int v2), (3, .int v3)] → W p l e (headSpec wsX9_children rm_X9_children).room s m ([.ref (ad 65), .int a1] : List Value).toArray below meth c H locs 0 0 (MQ below (va_Qi (fun r' (u : xV) => r' = r ∧ xQ σ' u) (xPost G ad σ' A) A) ([.ref (ad 65), .int a1] : List Value).toArray s 0 0 A) (F0 m 4 ls []) := by
    intro n
    induction n with
    | zero =>
      intro σ v1 v2 v3 H locs ls hf
      cases hf
    | succ n ih =>
      intro σ v1 v2 v3 H locs ls hf B hl
      have hf : f_X9_children_4 (zlp3 (f_X9_children_4) n) σ v1 v2 v3 = some (r, σ') := hf
      unfold f_X9_children_4 at hf
      refine lv_iload_n hx hb dX9_children_4 rfl (lv_at hl 3 rfl) ?_
      refine lv_aload_n hx hb dX9_children_5 rfl (lv_at hl 0 rfl) ?_
      refine x_getr hx hb hts hinRX9 hown B 65 0 66 (by decide) (by decide) (fun _ => rfl) rfl rfl (by decide) (by decide +kernel) rfl dX9_children_6 ?_
      refine lv_iconst (v := (1 : Int32)) hx hb dX9_children_9 (by decide) ?_
      obtain ⟨hg, hf⟩ := zg_some hf
      refine x_iald hx hb B 66 (by decide) (fun _ => rfl) (zin_ok hg) dX9_children_10 ?_
      refine lv_icmp_ge (tgt := 41) hx hb dX9_children_11 (by decide) (fun hc => ?_) (fun hc => ?_)
      · have hf := zif_t hc hf
        refine lv_iload_n hx hb dX9_children_41 rfl (lv_at hl 2 rfl) ?_
        refine W.widen (k := 0) (n := 0) (Nat.le_of_ble_eq_true rfl) (Nat.le_of_ble_eq_true rfl) ?_
        exact x_iret hx hb hr rfl hlocks B hf dX9_children_42
      · have hf := zif_f hc hf
        refine lv_iload_n hx hb dX9_children_14 rfl (lv_at hl 2 rfl) ?_
        refine lv_aload_n hx hb dX9_children_15 rfl (lv_at hl 0 rfl) ?_
        refine x_getr hx hb hts hinRX9 hown B 65 0 66 (by decide) (by decide) (fun _ => rfl) rfl rfl (by decide) (by decide +kernel) rfl dX9_children_16 ?_
        refine lv_bipush (v := (79 : Int32)) hx hb dX9_children_19 (by decide) ?_
        refine lv_iload_n hx hb dX9_children_21 rfl (lv_at hl 3 rfl) ?_
        refine lv_iadd hx hb dX9_children_22 ?_
        obtain ⟨hg, hf⟩ := zg_some hf
        refine x_iald hx hb B 66 (by decide) (fun _ => rfl) (zin_ok hg) dX9_children_23 ?_
        refine lv_iload_n hx hb dX9_children_24 rfl (lv_at hl 1 rfl) ?_
        refine lv_icmp_ne (tgt := 32) hx hb dX9_children_25 (by decide) (fun hc => ?_) (fun hc => ?_)
        · have hf := zif_f hc hf
          refine lv_iconst (v := (0 : Int32)) hx hb dX9_children_32 (by decide) ?_
          exact L33 _ ih  _ _ _ _ _ _ _ _ hf B (lv_sub hl [0, 1, 3] rfl)
        · have hf := zif_t hc hf
          refine lv_iconst (v := (1 : Int32)) hx hb dX9_children_28 (by decide) ?_
          refine lv_goto (tgt := 33) hx hb dX9_children_29 (by decide) ?_
          exact L33 _ ih  _ _ _ _ _ _ _ _ hf B (lv_sub hl [0, 1, 3] rfl)
  unfold f_X9_children at hf
  refine lv_iconst (v := (0 : Int32)) hx hb dX9_children_0 (by decide) ?_
  refine lv_istore_n (lv' := [(2, .int (0 : Int32)), (0, .ref (ad 65)), (1, .int a1)]) hx hb dX9_children_1 rfl hl (by decide) rfl (fun ls hl => ?_)
  refine lv_iconst (v := (0 : Int32)) hx hb dX9_children_2 (by decide) ?_
  refine lv_istore_n (lv' := [(3, .int (0 : Int32)), (2, .int (0 : Int32)), (0, .ref (ad 65)), (1, .int a1)]) hx hb dX9_children_3 rfl hl (by decide) rfl (fun ls hl => ?_)
  exact L4  _ _ _ _ _ _ _ _ hf B (lv_sub hl [2, 3, 1, 0] rfl)
theorem dX9_token_0 : decode cX9_token 0 = .ok (.aload_n 0, 1) := by decide +kernel
theorem dX9_token_1 : decode cX9_token 1 = .ok (.aload_n 0, 1) := by decide +kernel
theorem dX9_token_2 : decode cX9_token 2 = .ok (.iload_n 1, 1) := by decide +kernel
theorem dX9_token_3 : decode cX9_token 3 = .ok (.invokevirtual 118, 3) := by decide +kernel
theorem dX9_token_6 : decode cX9_token 6 = .ok (.ifCond .ne 7, 3) := by decide +kernel
theorem dX9_token_9 : decode cX9_token 9 = .ok (.iconst 1, 1) := by decide +kernel
theorem dX9_token_10 : decode cX9_token 10 = .ok (.goto 18, 3) := by decide +kernel
theorem dX9_token_13 : decode cX9_token 13 = .ok (.iload_n 2, 1) := by decide +kernel
theorem dX9_token_14 : decode cX9_token 14 = .ok (.iconst 0, 1) := by decide +kernel
theorem dX9_token_15 : decode cX9_token 15 = .ok (.bipush 6, 2) := by decide +kernel
theorem dX9_token_17 : decode cX9_token 17 = .ok (.invokestatic 44, 3) := by decide +kernel
theorem dX9_token_20 : decode cX9_token 20 = .ok (.ifCond .eq 7, 3) := by decide +kernel
theorem dX9_token_23 : decode cX9_token 23 = .ok (.iconst 0, 1) := by decide +kernel
theorem dX9_token_24 : decode cX9_token 24 = .ok (.goto 4, 3) := by decide +kernel
theorem dX9_token_27 : decode cX9_token 27 = .ok (.iconst 2, 1) := by decide +kernel
theorem dX9_token_28 : decode cX9_token 28 = .ok (.putfield 41, 3) := by decide +kernel
theorem dX9_token_31 : decode cX9_token 31 = .ok (.aload_n 0, 1) := by decide +kernel
theorem dX9_token_32 : decode cX9_token 32 = .ok (.getfield 41, 3) := by decide +kernel
theorem dX9_token_35 : decode cX9_token 35 = .ok (.ifCond .eq 5, 3) := by decide +kernel
theorem dX9_token_38 : decode cX9_token 38 = .ok (.iconst 0, 1) := by decide +kernel
theorem dX9_token_39 : decode cX9_token 39 = .ok (.ireturn, 1) := by decide +kernel
theorem dX9_token_40 : decode cX9_token 40 = .ok (.iload_n 2, 1) := by decide +kernel
theorem dX9_token_41 : decode cX9_token 41 = .ok (.tableswitch 101 0 5 #[39, 49, 59, 70, 81, 87], 39) := by decide +kernel
theorem dX9_token_80 : decode cX9_token 80 = .ok (.aload_n 0, 1) := by decide +kernel
theorem dX9_token_81 : decode cX9_token 81 = .ok (.getfield 9, 3) := by decide +kernel
theorem dX9_token_84 : decode cX9_token 84 = .ok (.bipush 51, 2) := by decide +kernel
theorem dX9_token_86 : decode cX9_token 86 = .ok (.iload_n 1, 1) := by decide +kernel
theorem dX9_token_87 : decode cX9_token 87 = .ok (.iadd, 1) := by decide +kernel
theorem dX9_token_88 : decode cX9_token 88 = .ok (.iaload, 1) := by decide +kernel
theorem dX9_token_89 : decode cX9_token 89 = .ok (.ireturn, 1) := by decide +kernel
theorem dX9_token_90 : decode cX9_token 90 = .ok (.aload_n 0, 1) := by decide +kernel
theorem dX9_token_91 : decode cX9_token 91 = .ok (.getfield 9, 3) := by decide +kernel
theorem dX9_token_94 : decode cX9_token 94 = .ok (.bipush 79, 2) := by decide +kernel
theorem dX9_token_96 : decode cX9_token 96 = .ok (.iload_n 1, 1) := by decide +kernel
theorem dX9_token_97 : decode cX9_token 97 = .ok (.iadd, 1) := by decide +kernel
theorem dX9_token_98 : decode cX9_token 98 = .ok (.iaload, 1) := by decide +kernel
theorem dX9_token_99 : decode cX9_token 99 = .ok (.ireturn, 1) := by decide +kernel
theorem dX9_token_100 : decode cX9_token 100 = .ok (.aload_n 0, 1) := by decide +kernel
theorem dX9_token_101 : decode cX9_token 101 = .ok (.getfield 9, 3) := by decide +kernel
theorem dX9_token_104 : decode cX9_token 104 = .ok (.sipush 191, 3) := by decide +kernel
theorem dX9_token_107 : decode cX9_token 107 = .ok (.iload_n 1, 1) := by decide +kernel
theorem dX9_token_108 : decode cX9_token 108 = .ok (.iadd, 1) := by decide +kernel
theorem dX9_token_109 : decode cX9_token 109 = .ok (.iaload, 1) := by decide +kernel
theorem dX9_token_110 : decode cX9_token 110 = .ok (.ireturn, 1) := by decide +kernel
theorem dX9_token_111 : decode cX9_token 111 = .ok (.aload_n 0, 1) := by decide +kernel
theorem dX9_token_112 : decode cX9_token 112 = .ok (.getfield 9, 3) := by decide +kernel
theorem dX9_token_115 : decode cX9_token 115 = .ok (.sipush 163, 3) := by decide +kernel
theorem dX9_token_118 : decode cX9_token 118 = .ok (.iload_n 1, 1) := by decide +kernel
theorem dX9_token_119 : decode cX9_token 119 = .ok (.iadd, 1) := by decide +kernel
theorem dX9_token_120 : decode cX9_token 120 = .ok (.iaload, 1) := by decide +kernel
theorem dX9_token_121 : decode cX9_token 121 = .ok (.ireturn, 1) := by decide +kernel
theorem dX9_token_122 : decode cX9_token 122 = .ok (.aload_n 0, 1) := by decide +kernel
theorem dX9_token_123 : decode cX9_token 123 = .ok (.iload_n 1, 1) := by decide +kernel
theorem dX9_token_124 : decode cX9_token 124 = .ok (.invokevirtual 66, 3) := by decide +kernel
theorem dX9_token_127 : decode cX9_token 127 = .ok (.ireturn, 1) := by decide +kernel
theorem dX9_token_128 : decode cX9_token 128 = .ok (.aload_n 0, 1) := by decide +kernel
theorem dX9_token_129 : decode cX9_token 129 = .ok (.iload_n 1, 1) := by decide +kernel
theorem dX9_token_130 : decode cX9_token 130 = .ok (.invokevirtual 134, 3) := by decide +kernel
theorem dX9_token_133 : decode cX9_token 133 = .ok (.ifCond .le 7, 3) := by decide +kernel
theorem dX9_token_136 : decode cX9_token 136 = .ok (.iconst 1, 1) := by decide +kernel
theorem dX9_token_137 : decode cX9_token 137 = .ok (.goto 4, 3) := by decide +kernel
theorem dX9_token_140 : decode cX9_token 140 = .ok (.iconst 0, 1) := by decide +kernel
theorem dX9_token_141 : decode cX9_token 141 = .ok (.ireturn, 1) := by decide +kernel
theorem dX9_token_142 : decode cX9_token 142 = .ok (.aload_n 0, 1) := by decide +kernel
theorem dX9_token_143 : decode cX9_token 143 = .ok (.iload_n 1, 1) := by decide +kernel
theorem dX9_token_144 : decode cX9_token 144 = .ok (.invokevirtual 137, 3) := by decide +kernel
theorem dX9_token_147 : decode cX9_token 147 = .ok (.ireturn, 1) := by decide +kernel
set_option maxRecDepth 20000 in
theorem ggX9_token_X9_isToken : GoodIn wsX9_token wsX9_isToken := goodIn_ca (goodIn_r _ [7, 2, 8, 9, 6, 10, 24, 25, 26, 27, 28, 29, 30, 31, 32, 33, 34, 35, 36, 37, 38, 39, 40, 41, 42, 43] (by decide +kernel) (by decide +kernel)) (goodIn_sub (fun _ h => List.mem_cons_of_mem _ (List.mem_append_right _ h)) (by decide +kernel))
set_option maxRecDepth 20000 in
theorem gX9_token_X9_isToken : GoodIn wsX9_token (wsV RX9 118 RX9 yX9_isToken wsX9_isToken) := goodIn_app (goodIn_of _ (by decide +kernel)) ggX9_token_X9_isToken
set_option maxRecDepth 20000 in
theorem ggX9_token_X9_isIn : GoodIn wsX9_token wsX9_isIn := goodIn_r _ [10] (by decide +kernel) (by decide +kernel)
set_option maxRecDepth 20000 in
theorem gX9_token_X9_isIn : GoodIn wsX9_token (va_wsS RX9 44 yX9_isIn wsX9_isIn) := goodIn_app (goodIn_of _ (by decide +kernel)) ggX9_token_X9_isIn
set_option maxRecDepth 20000 in
theorem ggX9_token_X9_children : GoodIn wsX9_token wsX9_children := goodIn_ca (goodIn_r _ [23, 2, 24, 25, 26, 27, 28, 29, 30, 31, 32, 33, 34, 35, 36, 37, 38, 39, 40, 41, 42, 43] (by decide +kernel) (by decide +kernel)) (goodIn_sub (fun _ h => List.mem_cons_of_mem _ (List.mem_append_right _ h)) (by decide +kernel))
set_option maxRecDepth 20000 in
theorem gX9_token_X9_children : GoodIn wsX9_token (wsV RX9 137 RX9 yX9_children wsX9_children) := goodIn_app (goodIn_of _ (by decide +kernel)) ggX9_token_X9_children
set_option maxRecDepth 20000 in
theorem ggX9_token_X9_chainOf : GoodIn wsX9_token wsX9_chainOf := goodIn_ca (goodIn_r _ [14, 2, 15, 24, 25, 26, 27, 28, 29, 30, 31, 32, 33, 34, 35, 36, 37, 38, 39, 40, 41, 42, 43] (by decide +kernel) (by decide +kernel)) (goodIn_sub (fun _ h => List.mem_cons_of_mem _ (List.mem_append_right _ h)) (by decide +kernel))
set_option maxRecDepth 20000 in
theorem gX9_token_X9_chainOf : GoodIn wsX9_token (wsV RX9 66 RX9 yX9_chainOf wsX9_chainOf) := goodIn_app (goodIn_of _ (by decide +kernel)) ggX9_token_X9_chainOf
set_option maxRecDepth 20000 in
theorem ggX9_token_X9_revokedIn : GoodIn wsX9_token wsX9_revokedIn := goodIn_ca (goodIn_r _ [19, 2, 24, 25, 26, 27, 28, 29, 30, 31, 32, 33, 34, 35, 36, 37, 38, 39, 40, 41, 42, 43] (by decide +kernel) (by decide +kernel)) (goodIn_sub (fun _ h => List.mem_cons_of_mem _ (List.mem_append_right _ h)) (by decide +kernel))
set_option maxRecDepth 20000 in
theorem gX9_token_X9_revokedIn : GoodIn wsX9_token (wsV RX9 134 RX9 yX9_revokedIn wsX9_revokedIn) := goodIn_app (goodIn_of _ (by decide +kernel)) ggX9_token_X9_revokedIn
def rm_X9_token : Room := { frames := 3, cells := 0, slots := 0, locals := 59 }
set_option maxHeartbeats 4000000 in
set_option maxRecDepth 100000 in
theorem c_X9_token (l : Launch) {G : zG} {ad : Nat → Nat} {σ σ' : zs} {a1 a2 : Int32} {r : Int32} (hf : f_X9_token σ a1 a2 = some (r, σ')) : xMi l yX9_token wsX9_token rm_X9_token G ad σ [.ref (ad 65), .int a1, .int a2] r σ' := by
  intro sz nb a g hs
  refine Met.ofW (cc := cX9_token) (maxL := 3) (ret := (some .int)) (by decide) rfl ?_
  intro p e s m args below meth c s₁ B hml hv
  obtain ⟨rfl, hsz, hv⟩ := hv
  have hx := B.exec
  have hb := B.bytes
  have hr := B.returns
  have hts := atoms_spec (ws := wsX9_token) B.pre
  have hown : s.vm.findClass RX9 = some m.cls := findClass_of_methodNamed B.named
  have hlocks := B.notSynchronized
  subst hsz
  have B := xB_start hs hv
  have hinRX9 : ∀ w ∈ wsX90, w ∈ wsX9_token := by decide +kernel
  have hl := lv_entry ([.ref (ad 65), .int a1, .int a2]) (n := 3) (Nat.le_of_ble_eq_true rfl)
  rw [lg_entry_eq]
  generalize (lg_sl ([.ref (ad 65), .int a1, .int a2]) ++ List.replicate (3 - (lg_sl ([.ref (ad 65), .int a1, .int a2])).length) Slot.unset).toArray = ls at hl ⊢
  have hl : lv_has ls 3 [(0, .ref (ad 65)), (1, .int a1), (2, .int a2)] := hl
  generalize hAe : xA ad a s.heap.size = A at B ⊢
  have L28 : ∀ (σ : zs) (v1 : Int32) (v2 : Int32) (s0 : Int32) (H : Heap) (locs : List Loc) (ls : Array Slot), f_X9_token_28 σ v1 v2 s0 = some (r, σ') → xB A s G ad σ H locs → lv_has ls 3 [(0, .ref (ad 65)), (1, .int v1), (2, .int v2)] → W p l e (headSpec wsX9_token rm_X9_token).room s m ([.ref (ad 65), .int a1, .int a2] : List Value).toArray below meth c H locs 0 0 (MQ below (va_Qi (fun r' (u : xV) => r' = r ∧ xQ σ' u) (xPost G ad σ' A) A) ([.ref (ad 65), .int a1, .int a2] : List Value).toArray s 0 0 A) (F0 m 28 ls [.int s0, .ref (ad 65)]) := by
    intro σ v1 v2 s0 H locs ls hf B hl
    unfold f_X9_token_28 at hf
    refine x_puti hx hb hts hinRX9 hown tyX9 tyX9_ok nmX9 B 65 3 (by decide) (by decide) (fun _ => rfl) rfl rfl (by decide) (by decide +kernel) rfl rfl rfl rfl dX9_token_28 (fun H locs B => ?_)
    refine lv_aload_n hx hb dX9_token_31 rfl (lv_at hl 0 rfl) ?_
    refine x_geti hx hb hts hinRX9 hown B 65 3 (by decide) (fun _ => rfl) rfl rfl (by decide) (by decide +kernel) rfl dX9_token_32 ?_
    refine lv_if_eq (tgt := 40) hx hb dX9_token_35 (by decide) (fun hc => ?_) (fun hc => ?_)
    · have hf := zif_t hc hf
      refine lv_iload_n hx hb dX9_token_40 rfl (lv_at hl 2 rfl) ?_
      by_cases hc0 : v2 = (0 : Int32)
      · have hf := zif_t hc0 hf
        refine lv_tableIn (off := 39) (tgt := 80) hx hb dX9_token_41 (by rw [hc0]; decide) (by rw [hc0]; decide) (by rw [hc0]; rfl) (by decide) ?_
        refine lv_aload_n hx hb dX9_token_80 rfl (lv_at hl 0 rfl) ?_
        refine x_getr hx hb hts hinRX9 hown B 65 0 66 (by decide) (by decide) (fun _ => rfl) rfl rfl (by decide) (by decide +kernel) rfl dX9_token_81 ?_
        refine lv_bipush (v := (51 : Int32)) hx hb dX9_token_84 (by decide) ?_
        refine lv_iload_n hx hb dX9_token_86 rfl (lv_at hl 1 rfl) ?_
        refine lv_iadd hx hb dX9_token_87 ?_
        obtain ⟨hg, hf⟩ := zg_some hf
        refine x_iald hx hb B 66 (by decide) (fun _ => rfl) (zin_ok hg) dX9_token_88 ?_
        refine W.widen (k := 0) (n := 0) (Nat.le_of_ble_eq_true rfl) (Nat.le_of_ble_eq_true rfl) ?_
        exact x_iret hx hb hr rfl hlocks B hf dX9_token_89
      have hf := zif_f hc0 hf
      by_cases hc1 : v2 = (1 : Int32)
      · have hf := zif_t hc1 hf
        refine lv_tableIn (off := 49) (tgt := 90) hx hb dX9_token_41 (by rw [hc1]; decide) (by rw [hc1]; decide) (by rw [hc1]; rfl) (by decide) ?_
        refine lv_aload_n hx hb dX9_token_90 rfl (lv_at hl 0 rfl) ?_
        refine x_getr hx hb hts hinRX9 hown B 65 0 66 (by decide) (by decide) (fun _ => rfl) rfl rfl (by decide) (by decide +kernel) rfl dX9_token_91 ?_
        refine lv_bipush (v := (79 : Int32)) hx hb dX9_token_94 (by decide) ?_
        refine lv_iload_n hx hb dX9_token_96 rfl (lv_at hl 1 rfl) ?_
        refine lv_iadd hx hb dX9_token_97 ?_
        obtain ⟨hg, hf⟩ := zg_some hf
        refine x_iald hx hb B 66 (by decide) (fun _ => rfl) (zin_ok hg) dX9_token_98 ?_
        refine W.widen (k := 0) (n := 0) (Nat.le_of_ble_eq_true rfl) (Nat.le_of_ble_eq_true rfl) ?_
        exact x_iret hx hb hr rfl hlocks B hf dX9_token_99
      have hf := zif_f hc1 hf
      by_cases hc2 : v2 = (2 : Int32)
      · have hf := zif_t hc2 hf
        refine lv_tableIn (off := 59) (tgt := 100) hx hb dX9_token_41 (by rw [hc2]; decide) (by rw [hc2]; decide) (by rw [hc2]; rfl) (by decide) ?_
        refine lv_aload_n hx hb dX9_token_100 rfl (lv_at hl 0 rfl) ?_
        refine x_getr hx hb hts hinRX9 hown B 65 0 66 (by decide) (by decide) (fun _ => rfl) rfl rfl (by decide) (by decide +kernel) rfl dX9_token_101 ?_
        refine lv_sipush (v := (191 : Int32)) hx hb dX9_token_104 (by decide) ?_
        refine lv_iload_n hx hb dX9_token_107 rfl (lv_at hl 1 rfl) ?_
        refine lv_iadd hx hb dX9_token_108 ?_
        obtain ⟨hg, hf⟩ := zg_some hf
        refine x_iald hx hb B 66 (by decide) (fun _ => rfl) (zin_ok hg) dX9_token_109 ?_
        refine W.widen (k := 0) (n := 0) (Nat.le_of_ble_eq_true rfl) (Nat.le_of_ble_eq_true rfl) ?_
        exact x_iret hx hb hr rfl hlocks B hf dX9_token_110
      have hf := zif_f hc2 hf
      by_cases hc3 : v2 = (3 : Int32)
      · have hf := zif_t hc3 hf
        refine lv_tableIn (off := 70) (tgt := 111) hx hb dX9_token_41 (by rw [hc3]; decide) (by rw [hc3]; decide) (by rw [hc3]; rfl) (by decide) ?_
        refine lv_aload_n hx hb dX9_token_111 rfl (lv_at hl 0 rfl) ?_
        refine x_getr hx hb hts hinRX9 hown B 65 0 66 (by decide) (by decide) (fun _ => rfl) rfl rfl (by decide) (by decide +kernel) rfl dX9_token_112 ?_
        refine lv_sipush (v := (163 : Int32)) hx hb dX9_token_115 (by decide) ?_
        refine lv_iload_n hx hb dX9_token_118 rfl (lv_at hl 1 rfl) ?_
        refine lv_iadd hx hb dX9_token_119 ?_
        obtain ⟨hg, hf⟩ := zg_some hf
        refine x_iald hx hb B 66 (by decide) (fun _ => rfl) (zin_ok hg) dX9_token_120 ?_
        refine W.widen (k := 0) (n := 0) (Nat.le_of_ble_eq_true rfl) (Nat.le_of_ble_eq_true rfl) ?_
        exact x_iret hx hb hr rfl hlocks B hf dX9_token_121
      have hf := zif_f hc3 hf
      by_cases hc4 : v2 = (4 : Int32)
      · have hf := zif_t hc4 hf
        refine lv_tableIn (off := 81) (tgt := 122) hx hb dX9_token_41 (by rw [hc4]; decide) (by rw [hc4]; decide) (by rw [hc4]; rfl) (by decide) ?_
        refine lv_aload_n hx hb dX9_token_122 rfl (lv_at hl 0 rfl) ?_
        refine lv_iload_n hx hb dX9_token_123 rfl (lv_at hl 1 rfl) ?_
        obtain ⟨r11, σ12, hu10, hf⟩ := zb_some hf
        refine x_i B (fun nb a g hs Bz => va_runV (As := [.int v1]) (rest := []) ⟨hx, hb, hml, hown, hts⟩ (c_X9_chainOf l hu10 _ nb a g hs) (cwV 1 hts gX9_token_X9_chainOf rfl rfl rfl (by decide +kernel) ⟨Nat.le_of_ble_eq_true rfl, Nat.le_of_ble_eq_true rfl⟩) (x_preV Bz (by decide) (fun _ => rfl) rfl) rfl rfl hl.1 rfl (lv_room (Nat.le_of_ble_eq_true rfl)) dX9_token_124 ⟨Nat.le_of_ble_eq_true rfl, Nat.le_of_ble_eq_true rfl⟩) (fun H locs B => ?_)
        refine W.widen (k := 0) (n := 0) (Nat.le_of_ble_eq_true rfl) (Nat.le_of_ble_eq_true rfl) ?_
        exact x_iret hx hb hr rfl hlocks B hf dX9_token_127
      have hf := zif_f hc4 hf
      by_cases hc5 : v2 = (5 : Int32)
      · have hf := zif_t hc5 hf
        refine lv_tableIn (off := 87) (tgt := 128) hx hb dX9_token_41 (by rw [hc5]; decide) (by rw [hc5]; decide) (by rw [hc5]; rfl) (by decide) ?_
        refine lv_aload_n hx hb dX9_token_128 rfl (lv_at hl 0 rfl) ?_
        refine lv_iload_n hx hb dX9_token_129 rfl (lv_at hl 1 rfl) ?_
        obtain ⟨r14, σ15, hu13, hf⟩ := zb_some hf
        refine x_i B (fun nb a g hs Bz => va_runV (As := [.int v1]) (rest := []) ⟨hx, hb, hml, hown, hts⟩ (c_X9_revokedIn l hu13 _ nb a g hs) (cwV 1 hts gX9_token_X9_revokedIn rfl rfl rfl (by decide +kernel) ⟨Nat.le_of_ble_eq_true rfl, Nat.le_of_ble_eq_true rfl⟩) (x_preV Bz (by decide) (fun _ => rfl) rfl) rfl rfl hl.1 rfl (lv_room (Nat.le_of_ble_eq_true rfl)) dX9_token_130 ⟨Nat.le_of_ble_eq_true rfl, Nat.le_of_ble_eq_true rfl⟩) (fun H locs B => ?_)
        refine lv_if_le (tgt := 140) hx hb dX9_token_133 (by decide) (fun hc => ?_) (fun hc => ?_)
        · have hf := zif_t hc hf
          refine lv_iconst (v := (0 : Int32)) hx hb dX9_token_140 (by decide) ?_
          refine W.widen (k := 0) (n := 0) (Nat.le_of_ble_eq_true rfl) (Nat.le_of_ble_eq_true rfl) ?_
          exact x_iret hx hb hr rfl hlocks B hf dX9_token_141
        · have hf := zif_f hc hf
          refine lv_iconst (v := (1 : Int32)) hx hb dX9_token_136 (by decide) ?_
          refine lv_goto (tgt := 141) hx hb dX9_token_137 (by decide) ?_
          refine W.widen (k := 0) (n := 0) (Nat.le_of_ble_eq_true rfl) (Nat.le_of_ble_eq_true rfl) ?_
          exact x_iret hx hb hr rfl hlocks B hf dX9_token_141
      have hf := zif_f hc5 hf
      refine lv_tableOut (tgt := 142) hx hb dX9_token_41 (zsw_out (fun j h1 h2 hj => ?_)) (by decide) ?_
      · have hd : j = 0 ∨ j = 1 ∨ j = 2 ∨ j = 3 ∨ j = 4 ∨ j = 5 := by omega
        rcases hd with rfl | rfl | rfl | rfl | rfl | rfl
        · exact hc0 (Int32.toInt_inj.mp (hj.trans (by decide)))
        · exact hc1 (Int32.toInt_inj.mp (hj.trans (by decide)))
        · exact hc2 (Int32.toInt_inj.mp (hj.trans (by decide)))
        · exact hc3 (Int32.toInt_inj.mp (hj.trans (by decide)))
        · exact hc4 (Int32.toInt_inj.mp (hj.trans (by decide)))
        · exact hc5 (Int32.toInt_inj.mp (hj.trans (by decide)))
      refine lv_aload_n hx hb dX9_token_142 rfl (lv_at hl 0 rfl) ?_
      refine lv_iload_n hx hb dX9_token_143 rfl (lv_at hl 1 rfl) ?_
      obtain ⟨r8, σ9, hu7, hf⟩ := zb_some hf
      refine x_i B (fun nb a g hs Bz => va_runV (As := [.int v1]) (rest := []) ⟨hx, hb, hml, hown, hts⟩ (c_X9_children l hu7 _ nb a g hs) (cwV 1 hts gX9_token_X9_children rfl rfl rfl (by decide +kernel) ⟨Nat.le_of_ble_eq_true rfl, Nat.le_of_ble_eq_true rfl⟩) (x_preV Bz (by decide) (fun _ => rfl) rfl) rfl rfl hl.1 rfl (lv_room (Nat.le_of_ble_eq_true rfl)) dX9_token_144 ⟨Nat.le_of_ble_eq_true rfl, Nat.le_of_ble_eq_true rfl⟩) (fun H locs B => ?_)
      refine W.widen (k := 0) (n := 0) (Nat.le_of_ble_eq_true rfl) (Nat.le_of_ble_eq_true rfl) ?_
      exact x_iret hx hb hr rfl hlocks B hf dX9_token_147
    · have hf := zif_f hc hf
      refine lv_iconst (v := (0 : Int32)) hx hb dX9_token_38 (by decide) ?_
      refine W.widen (k := 0) (n := 0) (Nat.le_of_ble_eq_true rfl) (Nat.le_of_ble_eq_true rfl) ?_
      exact x_iret hx hb hr rfl hlocks B hf dX9_token_39
  unfold f_X9_token at hf
  refine lv_aload_n hx hb dX9_token_0 rfl (lv_at hl 0 rfl) ?_
  refine lv_aload_n hx hb dX9_token_1 rfl (lv_at hl 0 rfl) ?_
  refine lv_iload_n hx hb dX9_token_2 rfl (lv_at hl 1 rfl) ?_
  obtain ⟨r2, σ3, hu1, hf⟩ := zb_some hf
  refine x_i B (fun nb a g hs Bz => va_runV (As := [.int a1]) (rest := [.ref (ad 65)]) ⟨hx, hb, hml, hown, hts⟩ (c_X9_isToken l hu1 _ nb a g hs) (cwV 1 hts gX9_token_X9_isToken rfl rfl rfl (by decide +kernel) ⟨Nat.le_of_ble_eq_true rfl, Nat.le_of_ble_eq_true rfl⟩) (x_preV Bz (by decide) (fun _ => rfl) rfl) rfl rfl hl.1 rfl (lv_room (Nat.le_of_ble_eq_true rfl)) dX9_token_3 ⟨Nat.le_of_ble_eq_true rfl, Nat.le_of_ble_eq_true rfl⟩) (fun H locs B => ?_)
  refine lv_if_ne (tgt := 13) hx hb dX9_token_6 (by decide) (fun hc => ?_) (fun hc => ?_)
  · have hf := zif_f hc hf
    refine lv_iload_n hx hb dX9_token_13 rfl (lv_at hl 2 rfl) ?_
    refine lv_iconst (v := (0 : Int32)) hx hb dX9_token_14 (by decide) ?_
    refine lv_bipush (v := (6 : Int32)) hx hb dX9_token_15 (by decide) ?_
    obtain ⟨r5, σ6, hu4, hf⟩ := zb_some hf
    refine x_i B (fun nb a g hs Bz => va_runS (As := [.int a2, .int (0 : Int32), .int (6 : Int32)]) (rest := [.ref (ad 65)]) ⟨hx, hb, hml, hown, hts⟩ (c_X9_isIn l hu4 _ nb a g hs) (va_cwS 3 hts gX9_token_X9_isIn rfl rfl rfl (by decide +kernel) ⟨Nat.le_of_ble_eq_true rfl, Nat.le_of_ble_eq_true rfl⟩) (z_preS Bz) rfl rfl hl.1 rfl (lv_room (Nat.le_of_ble_eq_true rfl)) dX9_token_17 ⟨Nat.le_of_ble_eq_true rfl, Nat.le_of_ble_eq_true rfl⟩) (fun H locs B => ?_)
    refine lv_if_eq (tgt := 27) hx hb dX9_token_20 (by decide) (fun hc => ?_) (fun hc => ?_)
    · have hf := zif_t hc hf
      refine lv_iconst (v := (2 : Int32)) hx hb dX9_token_27 (by decide) ?_
      exact L28  _ _ _ _ _ _ _ hf B (lv_sub hl [0, 1, 2] rfl)
    · have hf := zif_f hc hf
      refine lv_iconst (v := (0 : Int32)) hx hb dX9_token_23 (by decide) ?_
      refine lv_goto (tgt := 28) hx hb dX9_token_24 (by decide) ?_
      exact L28  _ _ _ _ _ _ _ hf B (lv_sub hl [0, 1, 2] rfl)
  · have hf := zif_t hc hf
    refine lv_iconst (v := (1 : Int32)) hx hb dX9_token_9 (by decide) ?_
    refine lv_goto (tgt := 28) hx hb dX9_token_10 (by decide) ?_
    exact L28  _ _ _ _ _ _ _ hf B (lv_sub hl [0, 1, 2] rfl)
theorem dX9_caveat_0 : decode cX9_caveat 0 = .ok (.aload_n 0, 1) := by decide +kernel
theorem dX9_caveat_1 : decode cX9_caveat 1 = .ok (.aload_n 0, 1) := by decide +kernel
theorem dX9_caveat_2 : decode cX9_caveat 2 = .ok (.iload_n 1, 1) := by decide +kernel
theorem dX9_caveat_3 : decode cX9_caveat 3 = .ok (.invokevirtual 118, 3) := by decide +kernel
theorem dX9_caveat_6 : decode cX9_caveat 6 = .ok (.ifCond .eq 23, 3) := by decide +kernel
theorem dX9_caveat_9 : decode cX9_caveat 9 = .ok (.iload_n 2, 1) := by decide +kernel
theorem dX9_caveat_10 : decode cX9_caveat 10 = .ok (.iconst 0, 1) := by decide +kernel
theorem dX9_caveat_11 : decode cX9_caveat 11 = .ok (.aload_n 0, 1) := by decide +kernel
theorem dX9_caveat_12 : decode cX9_caveat 12 = .ok (.getfield 9, 3) := by decide +kernel
theorem dX9_caveat_15 : decode cX9_caveat 15 = .ok (.sipush 191, 3) := by decide +kernel
theorem dX9_caveat_18 : decode cX9_caveat 18 = .ok (.iload_n 1, 1) := by decide +kernel
theorem dX9_caveat_19 : decode cX9_caveat 19 = .ok (.iadd, 1) := by decide +kernel
theorem dX9_caveat_20 : decode cX9_caveat 20 = .ok (.iaload, 1) := by decide +kernel
theorem dX9_caveat_21 : decode cX9_caveat 21 = .ok (.iconst 1, 1) := by decide +kernel
theorem dX9_caveat_22 : decode cX9_caveat 22 = .ok (.isub, 1) := by decide +kernel
theorem dX9_caveat_23 : decode cX9_caveat 23 = .ok (.invokestatic 44, 3) := by decide +kernel
theorem dX9_caveat_26 : decode cX9_caveat 26 = .ok (.ifCond .ne 7, 3) := by decide +kernel
theorem dX9_caveat_29 : decode cX9_caveat 29 = .ok (.iconst 1, 1) := by decide +kernel
theorem dX9_caveat_30 : decode cX9_caveat 30 = .ok (.goto 17, 3) := by decide +kernel
theorem dX9_caveat_33 : decode cX9_caveat 33 = .ok (.iload_n 3, 1) := by decide +kernel
theorem dX9_caveat_34 : decode cX9_caveat 34 = .ok (.iconst 0, 1) := by decide +kernel
theorem dX9_caveat_35 : decode cX9_caveat 35 = .ok (.iconst 2, 1) := by decide +kernel
theorem dX9_caveat_36 : decode cX9_caveat 36 = .ok (.invokestatic 44, 3) := by decide +kernel
theorem dX9_caveat_39 : decode cX9_caveat 39 = .ok (.ifCond .eq 7, 3) := by decide +kernel
theorem dX9_caveat_42 : decode cX9_caveat 42 = .ok (.iconst 0, 1) := by decide +kernel
theorem dX9_caveat_43 : decode cX9_caveat 43 = .ok (.goto 4, 3) := by decide +kernel
theorem dX9_caveat_46 : decode cX9_caveat 46 = .ok (.iconst 2, 1) := by decide +kernel
theorem dX9_caveat_47 : decode cX9_caveat 47 = .ok (.putfield 41, 3) := by decide +kernel
theorem dX9_caveat_50 : decode cX9_caveat 50 = .ok (.aload_n 0, 1) := by decide +kernel
theorem dX9_caveat_51 : decode cX9_caveat 51 = .ok (.getfield 41, 3) := by decide +kernel
theorem dX9_caveat_54 : decode cX9_caveat 54 = .ok (.ifCond .ne 13, 3) := by decide +kernel
theorem dX9_caveat_57 : decode cX9_caveat 57 = .ok (.aload_n 0, 1) := by decide +kernel
theorem dX9_caveat_58 : decode cX9_caveat 58 = .ok (.iload_n 1, 1) := by decide +kernel
theorem dX9_caveat_59 : decode cX9_caveat 59 = .ok (.iload_n 2, 1) := by decide +kernel
theorem dX9_caveat_60 : decode cX9_caveat 60 = .ok (.iload_n 3, 1) := by decide +kernel
theorem dX9_caveat_61 : decode cX9_caveat 61 = .ok (.invokevirtual 55, 3) := by decide +kernel
theorem dX9_caveat_64 : decode cX9_caveat 64 = .ok (.goto 4, 3) := by decide +kernel
theorem dX9_caveat_67 : decode cX9_caveat 67 = .ok (.iconst 0, 1) := by decide +kernel
theorem dX9_caveat_68 : decode cX9_caveat 68 = .ok (.ireturn, 1) := by decide +kernel
set_option maxRecDepth 20000 in
theorem ggX9_caveat_X9_isToken : GoodIn wsX9_caveat wsX9_isToken := goodIn_ca (goodIn_r _ [7, 1, 8, 9, 6, 10, 15, 16, 17, 18, 19, 20, 21, 22, 23, 24, 25, 26, 27, 28, 29, 30, 31, 32, 33, 34] (by decide +kernel) (by decide +kernel)) (goodIn_sub (fun _ h => List.mem_cons_of_mem _ (List.mem_append_right _ h)) (by decide +kernel))
set_option maxRecDepth 20000 in
theorem gX9_caveat_X9_isToken : GoodIn wsX9_caveat (wsV RX9 118 RX9 yX9_isToken wsX9_isToken) := goodIn_app (goodIn_of _ (by decide +kernel)) ggX9_caveat_X9_isToken
set_option maxRecDepth 20000 in
theorem ggX9_caveat_X9_part : GoodIn wsX9_caveat wsX9_part := goodIn_ca (goodIn_r _ [14, 1, 15, 16, 17, 18, 19, 20, 21, 22, 23, 24, 25, 26, 27, 28, 29, 30, 31, 32, 33, 34] (by decide +kernel) (by decide +kernel)) (goodIn_sub (fun _ h => List.mem_cons_of_mem _ (List.mem_append_right _ h)) (by decide +kernel))
set_option maxRecDepth 20000 in
theorem gX9_caveat_X9_part : GoodIn wsX9_caveat (wsV RX9 55 RX9 yX9_part wsX9_part) := goodIn_app (goodIn_of _ (by decide +kernel)) ggX9_caveat_X9_part
set_option maxRecDepth 20000 in
theorem ggX9_caveat_X9_isIn : GoodIn wsX9_caveat wsX9_isIn := goodIn_r _ [10] (by decide +kernel) (by decide +kernel)
set_option maxRecDepth 20000 in
theorem gX9_caveat_X9_isIn : GoodIn wsX9_caveat (va_wsS RX9 44 yX9_isIn wsX9_isIn) := goodIn_app (goodIn_of _ (by decide +kernel)) ggX9_caveat_X9_isIn
def rm_X9_caveat : Room := { frames := 3, cells := 0, slots := 0, locals := 59 }
set_option maxHeartbeats 4000000 in
set_option maxRecDepth 100000 in
theorem c_X9_caveat (l : Launch) {G : zG} {ad : Nat → Nat} {σ σ' : zs} {a1 a2 a3 : Int32} {r : Int32} (hf : f_X9_caveat σ a1 a2 a3 = some (r, σ')) : xMi l yX9_caveat wsX9_caveat rm_X9_caveat G ad σ [.ref (ad 65), .int a1, .int a2, .int a3] r σ' := by
  intro sz nb a g hs
  refine Met.ofW (cc := cX9_caveat) (maxL := 4) (ret := (some .int)) (by decide) rfl ?_
  intro p e s m args below meth c s₁ B hml hv
  obtain ⟨rfl, hsz, hv⟩ := hv
  have hx := B.exec
  have hb := B.bytes
  have hr := B.returns
  have hts := atoms_spec (ws := wsX9_caveat) B.pre
  have hown : s.vm.findClass RX9 = some m.cls := findClass_of_methodNamed B.named
  have hlocks := B.notSynchronized
  subst hsz
  have B := xB_start hs hv
  have hinRX9 : ∀ w ∈ wsX90, w ∈ wsX9_caveat := by decide +kernel
  have hl := lv_entry ([.ref (ad 65), .int a1, .int a2, .int a3]) (n := 4) (Nat.le_of_ble_eq_true rfl)
  rw [lg_entry_eq]
  generalize (lg_sl ([.ref (ad 65), .int a1, .int a2, .int a3]) ++ List.replicate (4 - (lg_sl ([.ref (ad 65), .int a1, .int a2, .int a3])).length) Slot.unset).toArray = ls at hl ⊢
  have hl : lv_has ls 4 [(0, .ref (ad 65)), (1, .int a1), (2, .int a2), (3, .int a3)] := hl
  generalize hAe : xA ad a s.heap.size = A at B ⊢
  have L47 : ∀ (σ : zs) (v1 : Int32) (v2 : Int32) (v3 : Int32) (s0 : Int32) (H : Heap) (locs : List Loc) (ls : Array Slot), f_X9_caveat_47 σ v1 v2 v3 s0 = some (r, σ') → xB A s G ad σ H locs → lv_has ls 4 [(0, .ref (ad 65)), (1, .int v1), (2, .int v2), (3, .int v3)] → W p l e (headSpec wsX9_caveat rm_X9_caveat).room s m ([.ref (ad 65), .int a1, .int a2, .int a3] : List Value).toArray below meth c H locs 0 0 (MQ below (va_Qi (fun r' (u : xV) => r' = r ∧ xQ σ' u) (xPost G ad σ' A) A) ([.ref (ad 65), .int a1, .int a2, .int a3] : List Value).toArray s 0 0 A) (F0 m 47 ls [.int s0, .ref (ad 65)]) := by
    intro σ v1 v2 v3 s0 H locs ls hf B hl
    unfold f_X9_caveat_47 at hf
    refine x_puti hx hb hts hinRX9 hown tyX9 tyX9_ok nmX9 B 65 3 (by decide) (by decide) (fun _ => rfl) rfl rfl (by decide) (by decide +kernel) rfl rfl rfl rfl dX9_caveat_47 (fun H locs B => ?_)
    refine lv_aload_n hx hb dX9_caveat_50 rfl (lv_at hl 0 rfl) ?_
    refine x_geti hx hb hts hinRX9 hown B 65 3 (by decide) (fun _ => rfl) rfl rfl (by decide) (by decide +kernel) rfl dX9_caveat_51 ?_
    refine lv_if_ne (tgt := 67) hx hb dX9_caveat_54 (by decide) (fun hc => ?_) (fun hc => ?_)
    · have hf := zif_f hc hf
      refine lv_iconst (v := (0 : Int32)) hx hb dX9_caveat_67 (by decide) ?_
      refine W.widen (k := 0) (n := 0) (Nat.le_of_ble_eq_true rfl) (Nat.le_of_ble_eq_true rfl) ?_
      exact x_iret hx hb hr rfl hlocks B hf dX9_caveat_68
    · have hf := zif_t hc hf
      refine lv_aload_n hx hb dX9_caveat_57 rfl (lv_at hl 0 rfl) ?_
      refine lv_iload_n hx hb dX9_caveat_58 rfl (lv_at hl 1 rfl) ?_
      refine lv_iload_n hx hb dX9_caveat_59 rfl (lv_at hl 2 rfl) ?_
      refine lv_iload_n hx hb dX9_caveat_60 rfl (lv_at hl 3 rfl) ?_
      obtain ⟨r5, σ6, hu4, hf⟩ := zb_some hf
      refine x_i B (fun nb a g hs Bz => va_runV (As := [.int v1, .int v2, .int v3]) (rest := []) ⟨hx, hb, hml, hown, hts⟩ (c_X9_part l hu4 _ nb a g hs) (cwV 3 hts gX9_caveat_X9_part rfl rfl rfl (by decide +kernel) ⟨Nat.le_of_ble_eq_true rfl, Nat.le_of_ble_eq_true rfl⟩) (x_preV Bz (by decide) (fun _ => rfl) rfl) rfl rfl hl.1 rfl (lv_room (Nat.le_of_ble_eq_true rfl)) dX9_caveat_61 ⟨Nat.le_of_ble_eq_true rfl, Nat.le_of_ble_eq_true rfl⟩) (fun H locs B => ?_)
      refine lv_goto (tgt := 68) hx hb dX9_caveat_64 (by decide) ?_
      refine W.widen (k := 0) (n := 0) (Nat.le_of_ble_eq_true rfl) (Nat.le_of_ble_eq_true rfl) ?_
      exact x_iret hx hb hr rfl hlocks B hf dX9_caveat_68
  unfold f_X9_caveat at hf
  refine lv_aload_n hx hb dX9_caveat_0 rfl (lv_at hl 0 rfl) ?_
  refine lv_aload_n hx hb dX9_caveat_1 rfl (lv_at hl 0 rfl) ?_
  refine lv_iload_n hx hb dX9_caveat_2 rfl (lv_at hl 1 rfl) ?_
  obtain ⟨r2, σ3, hu1, hf⟩ := zb_some hf
  refine x_i B (fun nb a g hs Bz => va_runV (As := [.int a1]) (rest := [.ref (ad 65)]) ⟨hx, hb, hml, hown, hts⟩ (c_X9_isToken l hu1 _ nb a g hs) (cwV 1 hts gX9_caveat_X9_isToken rfl rfl rfl (by decide +kernel) ⟨Nat.le_of_ble_eq_true rfl, Nat.le_of_ble_eq_true rfl⟩) (x_preV Bz (by decide) (fun _ => rfl) rfl) rfl rfl hl.1 rfl (lv_room (Nat.le_of_ble_eq_true rfl)) dX9_caveat_3 ⟨Nat.le_of_ble_eq_true rfl, Nat.le_of_ble_eq_true rfl⟩) (fun H locs B => ?_)
  refine lv_if_eq (tgt := 29) hx hb dX9_caveat_6 (by decide) (fun hc => ?_) (fun hc => ?_)
  · have hf := zif_t hc hf
    refine lv_iconst (v := (1 : Int32)) hx hb dX9_caveat_29 (by decide) ?_
    refine lv_goto (tgt := 47) hx hb dX9_caveat_30 (by decide) ?_
    exact L47  _ _ _ _ _ _ _ _ hf B (lv_sub hl [0, 1, 2, 3] rfl)
  · have hf := zif_f hc hf
    refine lv_iload_n hx hb dX9_caveat_9 rfl (lv_at hl 2 rfl) ?_
    refine lv_iconst (v := (0 : Int32)) hx hb dX9_caveat_10 (by decide) ?_
    refine lv_aload_n hx hb dX9_caveat_11 rfl (lv_at hl 0 rfl) ?_
    refine x_getr hx hb hts hinRX9 hown B 65 0 66 (by decide) (by decide) (fun _ => rfl) rfl rfl (by decide) (by decide +kernel) rfl dX9_caveat_12 ?_
    refine lv_sipush (v := (191 : Int32)) hx hb dX9_caveat_15 (by decide) ?_
    refine lv_iload_n hx hb dX9_caveat_18 rfl (lv_at hl 1 rfl) ?_
    refine lv_iadd hx hb dX9_caveat_19 ?_
    obtain ⟨hg, hf⟩ := zg_some hf
    refine x_iald hx hb B 66 (by decide) (fun _ => rfl) (zin_ok hg) dX9_caveat_20 ?_
    refine lv_iconst (v := (1 : Int32)) hx hb dX9_caveat_21 (by decide) ?_
    refine lv_isub hx hb dX9_caveat_22 ?_
    obtain ⟨r8, σ9, hu7, hf⟩ := zb_some hf
    refine x_i B (fun nb a g hs Bz => va_runS (As := [.int a2, .int (0 : Int32), .int ((σ3 66 ((191 : Int32) + a1).toNatClampNeg) - (1 : Int32))]) (rest := [.ref (ad 65)]) ⟨hx, hb, hml, hown, hts⟩ (c_X9_isIn l hu7 _ nb a g hs) (va_cwS 3 hts gX9_caveat_X9_isIn rfl rfl rfl (by decide +kernel) ⟨Nat.le_of_ble_eq_true rfl, Nat.le_of_ble_eq_true rfl⟩) (z_preS Bz) rfl rfl hl.1 rfl (lv_room (Nat.le_of_ble_eq_true rfl)) dX9_caveat_23 ⟨Nat.le_of_ble_eq_true rfl, Nat.le_of_ble_eq_true rfl⟩) (fun H locs B => ?_)
    refine lv_if_ne (tgt := 33) hx hb dX9_caveat_26 (by decide) (fun hc => ?_) (fun hc => ?_)
    · have hf := zif_f hc hf
      refine lv_iload_n hx hb dX9_caveat_33 rfl (lv_at hl 3 rfl) ?_
      refine lv_iconst (v := (0 : Int32)) hx hb dX9_caveat_34 (by decide) ?_
      refine lv_iconst (v := (2 : Int32)) hx hb dX9_caveat_35 (by decide) ?_
      obtain ⟨r11, σ12, hu10, hf⟩ := zb_some hf
      refine x_i B (fun nb a g hs Bz => va_runS (As := [.int a3, .int (0 : Int32), .int (2 : Int32)]) (rest := [.ref (ad 65)]) ⟨hx, hb, hml, hown, hts⟩ (c_X9_isIn l hu10 _ nb a g hs) (va_cwS 3 hts gX9_caveat_X9_isIn rfl rfl rfl (by decide +kernel) ⟨Nat.le_of_ble_eq_true rfl, Nat.le_of_ble_eq_true rfl⟩) (z_preS Bz) rfl rfl hl.1 rfl (lv_room (Nat.le_of_ble_eq_true rfl)) dX9_caveat_36 ⟨Nat.le_of_ble_eq_true rfl, Nat.le_of_ble_eq_true rfl⟩) (fun H locs B => ?_)
      refine lv_if_eq (tgt := 46) hx hb dX9_caveat_39 (by decide) (fun hc => ?_) (fun hc => ?_)
      · have hf := zif_t hc hf
        refine lv_iconst (v := (2 : Int32)) hx hb dX9_caveat_46 (by decide) ?_
        exact L47  _ _ _ _ _ _ _ _ hf B (lv_sub hl [0, 1, 2, 3] rfl)
      · have hf := zif_f hc hf
        refine lv_iconst (v := (0 : Int32)) hx hb dX9_caveat_42 (by decide) ?_
        refine lv_goto (tgt := 47) hx hb dX9_caveat_43 (by decide) ?_
        exact L47  _ _ _ _ _ _ _ _ hf B (lv_sub hl [0, 1, 2, 3] rfl)
    · have hf := zif_t hc hf
      refine lv_iconst (v := (1 : Int32)) hx hb dX9_caveat_29 (by decide) ?_
      refine lv_goto (tgt := 47) hx hb dX9_caveat_30 (by decide) ?_
      exact L47  _ _ _ _ _ _ _ _ hf B (lv_sub hl [0, 1, 2, 3] rfl)
theorem dX9_writes_0 : decode cX9_writes 0 = .ok (.aload_n 0, 1) := by decide +kernel
theorem dX9_writes_1 : decode cX9_writes 1 = .ok (.aload_n 0, 1) := by decide +kernel
theorem dX9_writes_2 : decode cX9_writes 2 = .ok (.getfield 140, 3) := by decide +kernel
theorem dX9_writes_5 : decode cX9_writes 5 = .ok (.aload_n 0, 1) := by decide +kernel
theorem dX9_writes_6 : decode cX9_writes 6 = .ok (.getfield 143, 3) := by decide +kernel
theorem dX9_writes_9 : decode cX9_writes 9 = .ok (.if_icmp .ne 7, 3) := by decide +kernel
theorem dX9_writes_12 : decode cX9_writes 12 = .ok (.iload_n 1, 1) := by decide +kernel
theorem dX9_writes_13 : decode cX9_writes 13 = .ok (.goto 7, 3) := by decide +kernel
theorem dX9_writes_16 : decode cX9_writes 16 = .ok (.aload_n 0, 1) := by decide +kernel
theorem dX9_writes_17 : decode cX9_writes 17 = .ok (.getfield 146, 3) := by decide +kernel
theorem dX9_writes_20 : decode cX9_writes 20 = .ok (.putfield 146, 3) := by decide +kernel
theorem dX9_writes_23 : decode cX9_writes 23 = .ok (.aload_n 0, 1) := by decide +kernel
theorem dX9_writes_24 : decode cX9_writes 24 = .ok (.dup, 1) := by decide +kernel
theorem dX9_writes_25 : decode cX9_writes 25 = .ok (.getfield 140, 3) := by decide +kernel
theorem dX9_writes_28 : decode cX9_writes 28 = .ok (.iconst 1, 1) := by decide +kernel
theorem dX9_writes_29 : decode cX9_writes 29 = .ok (.iadd, 1) := by decide +kernel
theorem dX9_writes_30 : decode cX9_writes 30 = .ok (.putfield 140, 3) := by decide +kernel
theorem dX9_writes_33 : decode cX9_writes 33 = .ok (.return_, 1) := by decide +kernel
def rm_X9_writes : Room := { frames := 1, cells := 0, slots := 0, locals := 16 }
set_option maxHeartbeats 4000000 in
set_option maxRecDepth 100000 in
theorem c_X9_writes (l : Launch) {G : zG} {ad : Nat → Nat} {σ σ' : zs} {a1 : Int32} {r : Int32} (hf : f_X9_writes σ a1 = some (r, σ')) : xMv l yX9_writes wsX9_writes rm_X9_writes G ad σ [.ref (ad 65), .int a1] σ' := by
  intro sz nb a g hs
  refine Met.ofW (cc := cX9_writes) (maxL := 2) (ret := none) (by decide) rfl ?_
  intro p e s m args below meth c s₁ B hml hv
  obtain ⟨rfl, hsz, hv⟩ := hv
  have hx := B.exec
  have hb := B.bytes
  have hr := B.returns
  have hts := atoms_spec (ws := wsX9_writes) B.pre
  have hown : s.vm.findClass RX9 = some m.cls := findClass_of_methodNamed B.named
  have hlocks := B.notSynchronized
  subst hsz
  have B := xB_start hs hv
  have hinRX9 : ∀ w ∈ wsX90, w ∈ wsX9_writes := by decide +kernel
  have hl := lv_entry ([.ref (ad 65), .int a1]) (n := 2) (Nat.le_of_ble_eq_true rfl)
  rw [lg_entry_eq]
  generalize (lg_sl ([.ref (ad 65), .int a1]) ++ List.replicate (2 - (lg_sl ([.ref (ad 65), .int a1])).length) Slot.unset).toArray = ls at hl ⊢
  have hl : lv_has ls 2 [(0, .ref (ad 65)), (1, .int a1)] := hl
  generalize hAe : xA ad a s.heap.size = A at B ⊢
  have L20 : ∀ (σ : zs) (s0 : Int32) (H : Heap) (locs : List Loc) (ls : Array Slot), f_X9_writes_20 σ s0 = some (r, σ') → xB A s G ad σ H locs → lv_has ls 2 [(0, .ref (ad 65))] → W p l e (headSpec wsX9_writes rm_X9_writes).room s m ([.ref (ad 65), .int a1] : List Value).toArray below meth c H locs 0 0 (MQ below (va_Qv (fun (u : xV) => xQ σ' u) (xPost G ad σ' A) A) ([.ref (ad 65), .int a1] : List Value).toArray s 0 0 A) (F0 m 20 ls [.int s0, .ref (ad 65)]) := by
    intro σ s0 H locs ls hf B hl
    unfold f_X9_writes_20 at hf
    refine x_puti hx hb hts hinRX9 hown tyX9 tyX9_ok nmX9 B 65 17 (by decide) (by decide) (fun _ => rfl) rfl rfl (by decide) (by decide +kernel) rfl rfl rfl rfl dX9_writes_20 (fun H locs B => ?_)
    refine lv_aload_n hx hb dX9_writes_23 rfl (lv_at hl 0 rfl) ?_
    refine lv_dup hx hb dX9_writes_24 rfl ?_
    refine x_geti hx hb hts hinRX9 hown B 65 15 (by decide) (fun _ => rfl) rfl rfl (by decide) (by decide +kernel) rfl dX9_writes_25 ?_
    refine lv_iconst (v := (1 : Int32)) hx hb dX9_writes_28 (by decide) ?_
    refine lv_iadd hx hb dX9_writes_29 ?_
    refine x_puti hx hb hts hinRX9 hown tyX9 tyX9_ok nmX9 B 65 15 (by decide) (by decide) (fun _ => rfl) rfl rfl (by decide) (by decide +kernel) rfl rfl rfl rfl dX9_writes_30 (fun H locs B => ?_)
    refine W.widen (k := 0) (n := 0) (Nat.le_of_ble_eq_true rfl) (Nat.le_of_ble_eq_true rfl) ?_
    exact x_vret hx hb hr hlocks B hf dX9_writes_33
  unfold f_X9_writes at hf
  refine lv_aload_n hx hb dX9_writes_0 rfl (lv_at hl 0 rfl) ?_
  refine lv_aload_n hx hb dX9_writes_1 rfl (lv_at hl 0 rfl) ?_
  refine x_geti hx hb hts hinRX9 hown B 65 15 (by decide) (fun _ => rfl) rfl rfl (by decide) (by decide +kernel) rfl dX9_writes_2 ?_
  refine lv_aload_n hx hb dX9_writes_5 rfl (lv_at hl 0 rfl) ?_
  refine x_geti hx hb hts hinRX9 hown B 65 16 (by decide) (fun _ => rfl) rfl rfl (by decide) (by decide +kernel) rfl dX9_writes_6 ?_
  refine lv_icmp_ne (tgt := 16) hx hb dX9_writes_9 (by decide) (fun hc => ?_) (fun hc => ?_)
  · have hf := zif_f hc hf
    refine lv_aload_n hx hb dX9_writes_16 rfl (lv_at hl 0 rfl) ?_
    refine x_geti hx hb hts hinRX9 hown B 65 17 (by decide) (fun _ => rfl) rfl rfl (by decide) (by decide +kernel) rfl dX9_writes_17 ?_
    exact L20  _ _ _ _ _ hf B (lv_sub hl [0] rfl)
  · have hf := zif_t hc hf
    refine lv_iload_n hx hb dX9_writes_12 rfl (lv_at hl 1 rfl) ?_
    refine lv_goto (tgt := 20) hx hb dX9_writes_13 (by decide) ?_
    exact L20  _ _ _ _ _ hf B (lv_sub hl [0] rfl)
theorem dX9_writesNumber_0 : decode cX9_writesNumber 0 = .ok (.iload_n 1, 1) := by decide +kernel
theorem dX9_writesNumber_1 : decode cX9_writesNumber 1 = .ok (.bipush 99, 2) := by decide +kernel
theorem dX9_writesNumber_3 : decode cX9_writesNumber 3 = .ok (.if_icmp .le 8, 3) := by decide +kernel
theorem dX9_writesNumber_6 : decode cX9_writesNumber 6 = .ok (.bipush 100, 2) := by decide +kernel
theorem dX9_writesNumber_8 : decode cX9_writesNumber 8 = .ok (.goto 15, 3) := by decide +kernel
theorem dX9_writesNumber_11 : decode cX9_writesNumber 11 = .ok (.iload_n 1, 1) := by decide +kernel
theorem dX9_writesNumber_12 : decode cX9_writesNumber 12 = .ok (.bipush 9, 2) := by decide +kernel
theorem dX9_writesNumber_14 : decode cX9_writesNumber 14 = .ok (.if_icmp .le 8, 3) := by decide +kernel
theorem dX9_writesNumber_17 : decode cX9_writesNumber 17 = .ok (.bipush 10, 2) := by decide +kernel
theorem dX9_writesNumber_19 : decode cX9_writesNumber 19 = .ok (.goto 4, 3) := by decide +kernel
theorem dX9_writesNumber_22 : decode cX9_writesNumber 22 = .ok (.iconst 1, 1) := by decide +kernel
theorem dX9_writesNumber_23 : decode cX9_writesNumber 23 = .ok (.istore_n 2, 1) := by decide +kernel
theorem dX9_writesNumber_24 : decode cX9_writesNumber 24 = .ok (.iload_n 2, 1) := by decide +kernel
theorem dX9_writesNumber_25 : decode cX9_writesNumber 25 = .ok (.ifCond .le 24, 3) := by decide +kernel
theorem dX9_writesNumber_28 : decode cX9_writesNumber 28 = .ok (.aload_n 0, 1) := by decide +kernel
theorem dX9_writesNumber_29 : decode cX9_writesNumber 29 = .ok (.bipush 48, 2) := by decide +kernel
theorem dX9_writesNumber_31 : decode cX9_writesNumber 31 = .ok (.iload_n 1, 1) := by decide +kernel
theorem dX9_writesNumber_32 : decode cX9_writesNumber 32 = .ok (.iload_n 2, 1) := by decide +kernel
theorem dX9_writesNumber_33 : decode cX9_writesNumber 33 = .ok (.idiv, 1) := by decide +kernel
theorem dX9_writesNumber_34 : decode cX9_writesNumber 34 = .ok (.bipush 10, 2) := by decide +kernel
theorem dX9_writesNumber_36 : decode cX9_writesNumber 36 = .ok (.irem, 1) := by decide +kernel
theorem dX9_writesNumber_37 : decode cX9_writesNumber 37 = .ok (.iadd, 1) := by decide +kernel
theorem dX9_writesNumber_38 : decode cX9_writesNumber 38 = .ok (.invokevirtual 149, 3) := by decide +kernel
theorem dX9_writesNumber_41 : decode cX9_writesNumber 41 = .ok (.iload_n 2, 1) := by decide +kernel
theorem dX9_writesNumber_42 : decode cX9_writesNumber 42 = .ok (.bipush 10, 2) := by decide +kernel
theorem dX9_writesNumber_44 : decode cX9_writesNumber 44 = .ok (.idiv, 1) := by decide +kernel
theorem dX9_writesNumber_45 : decode cX9_writesNumber 45 = .ok (.istore_n 2, 1) := by decide +kernel
theorem dX9_writesNumber_46 : decode cX9_writesNumber 46 = .ok (.goto (-22), 3) := by decide +kernel
theorem dX9_writesNumber_49 : decode cX9_writesNumber 49 = .ok (.return_, 1) := by decide +kernel
set_option maxRecDepth 20000 in
theorem ggX9_writesNumber_X9_writes : GoodIn wsX9_writesNumber wsX9_writes := goodIn_r _ [5, 6, 7, 8, 9, 10, 11, 12, 13, 14, 15, 16, 17, 18, 19, 20, 21, 22, 23, 24, 25, 26, 27, 28] (by decide +kernel) (by decide +kernel)
set_option maxRecDepth 20000 in
theorem gX9_writesNumber_X9_writes : GoodIn wsX9_writesNumber (wsV RX9 149 RX9 yX9_writes wsX9_writes) := goodIn_app (goodIn_of _ (by decide +kernel)) ggX9_writesNumber_X9_writes
def rm_X9_writesNumber : Room := { frames := 2, cells := 0, slots := 0, locals := 37 }
set_option maxHeartbeats 4000000 in
set_option maxRecDepth 100000 in
theorem c_X9_writesNumber (l : Launch) {G : zG} {ad : Nat → Nat} {σ σ' : zs} {a1 : Int32} {r : Int32} (hf : f_X9_writesNumber σ a1 = some (r, σ')) : xMv l yX9_writesNumber wsX9_writesNumber rm_X9_writesNumber G ad σ [.ref (ad 65), .int a1] σ' := by
  intro sz nb a g hs
  refine Met.ofW (cc := cX9_writesNumber) (maxL := 3) (ret := none) (by decide) rfl ?_
  intro p e s m args below meth c s₁ B hml hv
  obtain ⟨rfl, hsz, hv⟩ := hv
  have hx := B.exec
  have hb := B.bytes
  have hr := B.returns
  have hts := atoms_spec (ws := wsX9_writesNumber) B.pre
  have hown : s.vm.findClass RX9 = some m.cls := findClass_of_methodNamed B.named
  have hlocks := B.notSynchronized
  subst hsz
  have B := xB_start hs hv
  have hl := lv_entry ([.ref (ad 65), .int a1]) (n := 3) (Nat.le_of_ble_eq_true rfl)
  rw [lg_entry_eq]
  generalize (lg_sl ([.ref (ad 65), .int a1]) ++ List.replicate (3 - (lg_sl ([.ref (ad 65), .int a1])).length) Slot.unset).toArray = ls at hl ⊢
  have hl : lv_has ls 3 [(0, .ref (ad 65)), (1, .int a1)] := hl
  generalize hAe : xA ad a s.heap.size = A at B ⊢
  have L24 : ∀ (n : Nat) (σ : zs) (v1 : Int32) (v2 : Int32) (H : Heap) (locs : List Loc) (ls : Array Slot), zlp2 (f_X9_writesNumber_24) n σ v1 v2 = some (r, σ') → xB A s G ad σ H locs → lv_has ls 3 [(0, .ref (ad 65)), (1, .int v1), (2, .int v2)] → W p l e (headSpec wsX9_writesNumber rm_X9_writesNumber).room s m ([.ref (ad 65), .int a1] : List Value).toArray below meth c H locs 0 0 (MQ below (va_Qv (fun (u : xV) => xQ σ' u) (xPost G ad σ' A) A) ([.ref (ad 65), .int a1] : List Value).toArray s 0 0 A) (F0 m 24 ls []) := by
    intro n
    induction n with
    | zero =>
      intro σ v1 v2 H locs ls hf
      cases hf
    | succ n ih =>
      intro σ v1 v2 H locs ls hf B hl
      have hf : f_X9_writesNumber_24 (zlp2 (f_X9_writesNumber_24) n) σ v1 v2 = some (r, σ') := hf
      unfold f_X9_writesNumber_24 at hf
      refine lv_iload_n hx hb dX9_writesNumber_24 rfl (lv_at hl 2 rfl) ?_
      refine lv_if_le (tgt := 49) hx hb dX9_writesNumber_25 (by decide) (fun hc => ?_) (fun hc => ?_)
      · have hf := zif_t hc hf
        refine W.widen (k := 0) (n := 0) (Nat.le_of_ble_eq_true rfl) (Nat.le_of_ble_eq_true rfl) ?_
        exact x_vret hx hb hr hlocks B hf dX9_writesNumber_49
      · have hf := zif_f hc hf
        refine lv_aload_n hx hb dX9_writesNumber_28 rfl (lv_at hl 0 rfl) ?_
        refine lv_bipush (v := (48 : Int32)) hx hb dX9_writesNumber_29 (by decide) ?_
        refine lv_iload_n hx hb dX9_writesNumber_31 rfl (lv_at hl 1 rfl) ?_
        refine lv_iload_n hx hb dX9_writesNumber_32 rfl (lv_at hl 2 rfl) ?_
        obtain ⟨hg, hf⟩ := zg_some hf
        refine lv_idiv hx hb dX9_writesNumber_33 (by simpa using hg) ?_
        refine lv_bipush (v := (10 : Int32)) hx hb dX9_writesNumber_34 (by decide) ?_
        refine lv_irem hx hb dX9_writesNumber_36 (by decide) ?_
        refine lv_iadd hx hb dX9_writesNumber_37 ?_
        obtain ⟨r2, σ3, hu1, hf⟩ := zb_some hf
        refine x_v B (fun nb a g hs Bz => va_runV (As := [.int ((48 : Int32) + ((v1 / v2) - (v1 / v2) / (10 : Int32) * (10 : Int32)))]) (rest := []) ⟨hx, hb, hml, hown, hts⟩ (c_X9_writes l hu1 _ nb a g hs) (cwV 1 hts gX9_writesNumber_X9_writes rfl rfl rfl (by decide +kernel) ⟨Nat.le_of_ble_eq_true rfl, Nat.le_of_ble_eq_true rfl⟩) (x_preV Bz (by decide) (fun _ => rfl) rfl) rfl rfl hl.1 rfl (lv_room (Nat.le_of_ble_eq_true rfl)) dX9_writesNumber_38 ⟨Nat.le_of_ble_eq_true rfl, Nat.le_of_ble_eq_true rfl⟩) (fun H locs B => ?_)
        refine lv_iload_n hx hb dX9_writesNumber_41 rfl (lv_at hl 2 rfl) ?_
        refine lv_bipush (v := (10 : Int32)) hx hb dX9_writesNumber_42 (by decide) ?_
        refine lv_idiv hx hb dX9_writesNumber_44 (by decide) ?_
        refine lv_istore_n (lv' := [(2, .int (v2 / (10 : Int32))), (0, .ref (ad 65)), (1, .int v1)]) hx hb dX9_writesNumber_45 rfl hl (by decide) rfl (fun ls hl => ?_)
        refine lv_goto (tgt := 24) hx hb dX9_writesNumber_46 (by decide) ?_
        exact ih _ _ _ _ _ _ hf B (lv_sub hl [1, 2, 0] rfl)
  unfold f_X9_writesNumber at hf
  refine lv_iload_n hx hb dX9_writesNumber_0 rfl (lv_at hl 1 rfl) ?_
  refine lv_bipush (v := (99 : Int32)) hx hb dX9_writesNumber_1 (by decide) ?_
  refine lv_icmp_le (tgt := 11) hx hb dX9_writesNumber_3 (by decide) (fun hc => ?_) (fun hc => ?_)
  · have hf := zif_t hc hf
    refine lv_iload_n hx hb dX9_writesNumber_11 rfl (lv_at hl 1 rfl) ?_
    refine lv_bipush (v := (9 : Int32)) hx hb dX9_writesNumber_12 (by decide) ?_
    refine lv_icmp_le (tgt := 22) hx hb dX9_writesNumber_14 (by decide) (fun hc => ?_) (fun hc => ?_)
    · have hf := zif_t hc hf
      refine lv_iconst (v := (1 : Int32)) hx hb dX9_writesNumber_22 (by decide) ?_
      refine lv_istore_n (lv' := [(2, .int (1 : Int32)), (0, .ref (ad 65)), (1, .int a1)]) hx hb dX9_writesNumber_23 rfl hl (by decide) rfl (fun ls hl => ?_)
      exact L24  _ _ _ _ _ _ _ hf B (lv_sub hl [1, 2, 0] rfl)
    · have hf := zif_f hc hf
      refine lv_bipush (v := (10 : Int32)) hx hb dX9_writesNumber_17 (by decide) ?_
      refine lv_goto (tgt := 23) hx hb dX9_writesNumber_19 (by decide) ?_
      refine lv_istore_n (lv' := [(2, .int (10 : Int32)), (0, .ref (ad 65)), (1, .int a1)]) hx hb dX9_writesNumber_23 rfl hl (by decide) rfl (fun ls hl => ?_)
      exact L24  _ _ _ _ _ _ _ hf B (lv_sub hl [1, 2, 0] rfl)
  · have hf := zif_f hc hf
    refine lv_bipush (v := (100 : Int32)) hx hb dX9_writesNumber_6 (by decide) ?_
    refine lv_goto (tgt := 23) hx hb dX9_writesNumber_8 (by decide) ?_
    refine lv_istore_n (lv' := [(2, .int (100 : Int32)), (0, .ref (ad 65)), (1, .int a1)]) hx hb dX9_writesNumber_23 rfl hl (by decide) rfl (fun ls hl => ?_)
    exact L24  _ _ _ _ _ _ _ hf B (lv_sub hl [1, 2, 0] rfl)
theorem dX9_letterOf_0 : decode cX9_letterOf 0 = .ok (.iload_n 0, 1) := by decide +kernel
theorem dX9_letterOf_1 : decode cX9_letterOf 1 = .ok (.ifCond .ne 8, 3) := by decide +kernel
theorem dX9_letterOf_4 : decode cX9_letterOf 4 = .ok (.bipush 114, 2) := by decide +kernel
theorem dX9_letterOf_6 : decode cX9_letterOf 6 = .ok (.goto 35, 3) := by decide +kernel
theorem dX9_letterOf_9 : decode cX9_letterOf 9 = .ok (.iload_n 0, 1) := by decide +kernel
theorem dX9_letterOf_10 : decode cX9_letterOf 10 = .ok (.iconst 1, 1) := by decide +kernel
theorem dX9_letterOf_11 : decode cX9_letterOf 11 = .ok (.if_icmp .ne 8, 3) := by decide +kernel
theorem dX9_letterOf_14 : decode cX9_letterOf 14 = .ok (.bipush 116, 2) := by decide +kernel
theorem dX9_letterOf_16 : decode cX9_letterOf 16 = .ok (.goto 25, 3) := by decide +kernel
theorem dX9_letterOf_19 : decode cX9_letterOf 19 = .ok (.iload_n 0, 1) := by decide +kernel
theorem dX9_letterOf_20 : decode cX9_letterOf 20 = .ok (.iconst 2, 1) := by decide +kernel
theorem dX9_letterOf_21 : decode cX9_letterOf 21 = .ok (.if_icmp .ne 8, 3) := by decide +kernel
theorem dX9_letterOf_24 : decode cX9_letterOf 24 = .ok (.bipush 115, 2) := by decide +kernel
theorem dX9_letterOf_26 : decode cX9_letterOf 26 = .ok (.goto 15, 3) := by decide +kernel
theorem dX9_letterOf_29 : decode cX9_letterOf 29 = .ok (.iload_n 0, 1) := by decide +kernel
theorem dX9_letterOf_30 : decode cX9_letterOf 30 = .ok (.iconst 3, 1) := by decide +kernel
theorem dX9_letterOf_31 : decode cX9_letterOf 31 = .ok (.if_icmp .ne 8, 3) := by decide +kernel
theorem dX9_letterOf_34 : decode cX9_letterOf 34 = .ok (.bipush 110, 2) := by decide +kernel
theorem dX9_letterOf_36 : decode cX9_letterOf 36 = .ok (.goto 5, 3) := by decide +kernel
theorem dX9_letterOf_39 : decode cX9_letterOf 39 = .ok (.bipush 97, 2) := by decide +kernel
theorem dX9_letterOf_41 : decode cX9_letterOf 41 = .ok (.ireturn, 1) := by decide +kernel
def rm_X9_letterOf : Room := { frames := 1, cells := 0, slots := 0, locals := 16 }
set_option maxHeartbeats 4000000 in
set_option maxRecDepth 100000 in
theorem c_X9_letterOf (l : Launch) {G : zG} {ad : Nat → Nat} {σ σ' : zs} {a0 : Int32} {r : Int32} (hf : f_X9_letterOf σ a0 = some (r, σ')) : xMi l yX9_letterOf wsX9_letterOf rm_X9_letterOf G ad σ [.int a0] r σ' := by
  intro sz nb a g hs
  refine Met.ofW (cc := cX9_letterOf) (maxL := 1) (ret := (some .int)) (by decide) rfl ?_
  intro p e s m args below meth c s₁ B hml hv
  obtain ⟨rfl, hsz, hv⟩ := hv
  have hx := B.exec
  have hb := B.bytes
  have hr := B.returns
  have hts := atoms_spec (ws := wsX9_letterOf) B.pre
  have hown : s.vm.findClass RX9 = some m.cls := findClass_of_methodNamed B.named
  have hlocks := B.notSynchronized
  subst hsz
  have B := xB_start hs hv
  have hl := lv_entry ([.int a0]) (n := 1) (Nat.le_of_ble_eq_true rfl)
  rw [lg_entry_eq]
  generalize (lg_sl ([.int a0]) ++ List.replicate (1 - (lg_sl ([.int a0])).length) Slot.unset).toArray = ls at hl ⊢
  have hl : lv_has ls 1 [(0, .int a0)] := hl
  generalize hAe : xA ad a s.heap.size = A at B ⊢
  unfold f_X9_letterOf at hf
  refine lv_iload_n hx hb dX9_letterOf_0 rfl (lv_at hl 0 rfl) ?_
  refine lv_if_ne (tgt := 9) hx hb dX9_letterOf_1 (by decide) (fun hc => ?_) (fun hc => ?_)
  · have hf := zif_f hc hf
    refine lv_iload_n hx hb dX9_letterOf_9 rfl (lv_at hl 0 rfl) ?_
    refine lv_iconst (v := (1 : Int32)) hx hb dX9_letterOf_10 (by decide) ?_
    refine lv_icmp_ne (tgt := 19) hx hb dX9_letterOf_11 (by decide) (fun hc => ?_) (fun hc => ?_)
    · have hf := zif_f hc hf
      refine lv_iload_n hx hb dX9_letterOf_19 rfl (lv_at hl 0 rfl) ?_
      refine lv_iconst (v := (2 : Int32)) hx hb dX9_letterOf_20 (by decide) ?_
      refine lv_icmp_ne (tgt := 29) hx hb dX9_letterOf_21 (by decide) (fun hc => ?_) (fun hc => ?_)
      · have hf := zif_f hc hf
        refine lv_iload_n hx hb dX9_letterOf_29 rfl (lv_at hl 0 rfl) ?_
        refine lv_iconst (v := (3 : Int32)) hx hb dX9_letterOf_30 (by decide) ?_
        refine lv_icmp_ne (tgt := 39) hx hb dX9_letterOf_31 (by decide) (fun hc => ?_) (fun hc => ?_)
        · have hf := zif_f hc hf
          refine lv_bipush (v := (97 : Int32)) hx hb dX9_letterOf_39 (by decide) ?_
          refine W.widen (k := 0) (n := 0) (Nat.le_of_ble_eq_true rfl) (Nat.le_of_ble_eq_true rfl) ?_
          exact x_iret hx hb hr rfl hlocks B hf dX9_letterOf_41
        · have hf := zif_t hc hf
          refine lv_bipush (v := (110 : Int32)) hx hb dX9_letterOf_34 (by decide) ?_
          refine lv_goto (tgt := 41) hx hb dX9_letterOf_36 (by decide) ?_
          refine W.widen (k := 0) (n := 0) (Nat.le_of_ble_eq_true rfl) (Nat.le_of_ble_eq_true rfl) ?_
          exact x_iret hx hb hr rfl hlocks B hf dX9_letterOf_41
      · have hf := zif_t hc hf
        refine lv_bipush (v := (115 : Int32)) hx hb dX9_letterOf_24 (by decide) ?_
        refine lv_goto (tgt := 41) hx hb dX9_letterOf_26 (by decide) ?_
        refine W.widen (k := 0) (n := 0) (Nat.le_of_ble_eq_true rfl) (Nat.le_of_ble_eq_true rfl) ?_
        exact x_iret hx hb hr rfl hlocks B hf dX9_letterOf_41
    · have hf := zif_t hc hf
      refine lv_bipush (v := (116 : Int32)) hx hb dX9_letterOf_14 (by decide) ?_
      refine lv_goto (tgt := 41) hx hb dX9_letterOf_16 (by decide) ?_
      refine W.widen (k := 0) (n := 0) (Nat.le_of_ble_eq_true rfl) (Nat.le_of_ble_eq_true rfl) ?_
      exact x_iret hx hb hr rfl hlocks B hf dX9_letterOf_41
  · have hf := zif_t hc hf
    refine lv_bipush (v := (114 : Int32)) hx hb dX9_letterOf_4 (by decide) ?_
    refine lv_goto (tgt := 41) hx hb dX9_letterOf_6 (by decide) ?_
    refine W.widen (k := 0) (n := 0) (Nat.le_of_ble_eq_true rfl) (Nat.le_of_ble_eq_true rfl) ?_
    exact x_iret hx hb hr rfl hlocks B hf dX9_letterOf_41
theorem dX9_describe_0 : decode cX9_describe 0 = .ok (.aload_n 0, 1) := by decide +kernel
theorem dX9_describe_1 : decode cX9_describe 1 = .ok (.aload_n 0, 1) := by decide +kernel
theorem dX9_describe_2 : decode cX9_describe 2 = .ok (.iload_n 1, 1) := by decide +kernel
theorem dX9_describe_3 : decode cX9_describe 3 = .ok (.invokevirtual 118, 3) := by decide +kernel
theorem dX9_describe_6 : decode cX9_describe 6 = .ok (.ifCond .eq 12, 3) := by decide +kernel
theorem dX9_describe_9 : decode cX9_describe 9 = .ok (.iload_n 2, 1) := by decide +kernel
theorem dX9_describe_10 : decode cX9_describe 10 = .ok (.iconst (-1), 1) := by decide +kernel
theorem dX9_describe_11 : decode cX9_describe 11 = .ok (.if_icmp .lt 7, 3) := by decide +kernel
theorem dX9_describe_14 : decode cX9_describe 14 = .ok (.iconst 0, 1) := by decide +kernel
theorem dX9_describe_15 : decode cX9_describe 15 = .ok (.goto 4, 3) := by decide +kernel
theorem dX9_describe_18 : decode cX9_describe 18 = .ok (.iconst 1, 1) := by decide +kernel
theorem dX9_describe_19 : decode cX9_describe 19 = .ok (.putfield 41, 3) := by decide +kernel
theorem dX9_describe_22 : decode cX9_describe 22 = .ok (.aload_n 0, 1) := by decide +kernel
theorem dX9_describe_23 : decode cX9_describe 23 = .ok (.getfield 41, 3) := by decide +kernel
theorem dX9_describe_26 : decode cX9_describe 26 = .ok (.ifCond .eq 5, 3) := by decide +kernel
theorem dX9_describe_29 : decode cX9_describe 29 = .ok (.iconst 0, 1) := by decide +kernel
theorem dX9_describe_30 : decode cX9_describe 30 = .ok (.ireturn, 1) := by decide +kernel
theorem dX9_describe_31 : decode cX9_describe 31 = .ok (.aload_n 0, 1) := by decide +kernel
theorem dX9_describe_32 : decode cX9_describe 32 = .ok (.iconst 0, 1) := by decide +kernel
theorem dX9_describe_33 : decode cX9_describe 33 = .ok (.putfield 140, 3) := by decide +kernel
theorem dX9_describe_36 : decode cX9_describe 36 = .ok (.aload_n 0, 1) := by decide +kernel
theorem dX9_describe_37 : decode cX9_describe 37 = .ok (.iload_n 2, 1) := by decide +kernel
theorem dX9_describe_38 : decode cX9_describe 38 = .ok (.putfield 143, 3) := by decide +kernel
theorem dX9_describe_41 : decode cX9_describe 41 = .ok (.iconst 0, 1) := by decide +kernel
theorem dX9_describe_42 : decode cX9_describe 42 = .ok (.istore_n 3, 1) := by decide +kernel
theorem dX9_describe_43 : decode cX9_describe 43 = .ok (.iload_n 3, 1) := by decide +kernel
theorem dX9_describe_44 : decode cX9_describe 44 = .ok (.aload_n 0, 1) := by decide +kernel
theorem dX9_describe_45 : decode cX9_describe 45 = .ok (.getfield 9, 3) := by decide +kernel
theorem dX9_describe_48 : decode cX9_describe 48 = .ok (.sipush 191, 3) := by decide +kernel
theorem dX9_describe_51 : decode cX9_describe 51 = .ok (.iload_n 1, 1) := by decide +kernel
theorem dX9_describe_52 : decode cX9_describe 52 = .ok (.iadd, 1) := by decide +kernel
theorem dX9_describe_53 : decode cX9_describe 53 = .ok (.iaload, 1) := by decide +kernel
theorem dX9_describe_54 : decode cX9_describe 54 = .ok (.if_icmp .ge 72, 3) := by decide +kernel
theorem dX9_describe_57 : decode cX9_describe 57 = .ok (.iload_n 3, 1) := by decide +kernel
theorem dX9_describe_58 : decode cX9_describe 58 = .ok (.ifCond .le 9, 3) := by decide +kernel
theorem dX9_describe_61 : decode cX9_describe 61 = .ok (.aload_n 0, 1) := by decide +kernel
theorem dX9_describe_62 : decode cX9_describe 62 = .ok (.bipush 59, 2) := by decide +kernel
theorem dX9_describe_64 : decode cX9_describe 64 = .ok (.invokevirtual 149, 3) := by decide +kernel
theorem dX9_describe_67 : decode cX9_describe 67 = .ok (.aload_n 0, 1) := by decide +kernel
theorem dX9_describe_68 : decode cX9_describe 68 = .ok (.aload_n 0, 1) := by decide +kernel
theorem dX9_describe_69 : decode cX9_describe 69 = .ok (.iload_n 1, 1) := by decide +kernel
theorem dX9_describe_70 : decode cX9_describe 70 = .ok (.iload_n 3, 1) := by decide +kernel
theorem dX9_describe_71 : decode cX9_describe 71 = .ok (.iconst 0, 1) := by decide +kernel
theorem dX9_describe_72 : decode cX9_describe 72 = .ok (.invokevirtual 55, 3) := by decide +kernel
theorem dX9_describe_75 : decode cX9_describe 75 = .ok (.invokestatic 153, 3) := by decide +kernel
theorem dX9_describe_78 : decode cX9_describe 78 = .ok (.invokevirtual 149, 3) := by decide +kernel
theorem dX9_describe_81 : decode cX9_describe 81 = .ok (.aload_n 0, 1) := by decide +kernel
theorem dX9_describe_82 : decode cX9_describe 82 = .ok (.aload_n 0, 1) := by decide +kernel
theorem dX9_describe_83 : decode cX9_describe 83 = .ok (.iload_n 1, 1) := by decide +kernel
theorem dX9_describe_84 : decode cX9_describe 84 = .ok (.iload_n 3, 1) := by decide +kernel
theorem dX9_describe_85 : decode cX9_describe 85 = .ok (.iconst 1, 1) := by decide +kernel
theorem dX9_describe_86 : decode cX9_describe 86 = .ok (.invokevirtual 55, 3) := by decide +kernel
theorem dX9_describe_89 : decode cX9_describe 89 = .ok (.invokevirtual 156, 3) := by decide +kernel
theorem dX9_describe_92 : decode cX9_describe 92 = .ok (.aload_n 0, 1) := by decide +kernel
theorem dX9_describe_93 : decode cX9_describe 93 = .ok (.iload_n 1, 1) := by decide +kernel
theorem dX9_describe_94 : decode cX9_describe 94 = .ok (.iload_n 3, 1) := by decide +kernel
theorem dX9_describe_95 : decode cX9_describe 95 = .ok (.iconst 0, 1) := by decide +kernel
theorem dX9_describe_96 : decode cX9_describe 96 = .ok (.invokevirtual 55, 3) := by decide +kernel
theorem dX9_describe_99 : decode cX9_describe 99 = .ok (.iconst 4, 1) := by decide +kernel
theorem dX9_describe_100 : decode cX9_describe 100 = .ok (.if_icmp .ne 20, 3) := by decide +kernel
theorem dX9_describe_103 : decode cX9_describe 103 = .ok (.aload_n 0, 1) := by decide +kernel
theorem dX9_describe_104 : decode cX9_describe 104 = .ok (.bipush 45, 2) := by decide +kernel
theorem dX9_describe_106 : decode cX9_describe 106 = .ok (.invokevirtual 149, 3) := by decide +kernel
theorem dX9_describe_109 : decode cX9_describe 109 = .ok (.aload_n 0, 1) := by decide +kernel
theorem dX9_describe_110 : decode cX9_describe 110 = .ok (.aload_n 0, 1) := by decide +kernel
theorem dX9_describe_111 : decode cX9_describe 111 = .ok (.iload_n 1, 1) := by decide +kernel
theorem dX9_describe_112 : decode cX9_describe 112 = .ok (.iload_n 3, 1) := by decide +kernel
theorem dX9_describe_113 : decode cX9_describe 113 = .ok (.iconst 2, 1) := by decide +kernel
theorem dX9_describe_114 : decode cX9_describe 114 = .ok (.invokevirtual 55, 3) := by decide +kernel
theorem dX9_describe_117 : decode cX9_describe 117 = .ok (.invokevirtual 156, 3) := by decide +kernel
theorem dX9_describe_120 : decode cX9_describe 120 = .ok (.iinc 3 1, 3) := by decide +kernel
theorem dX9_describe_123 : decode cX9_describe 123 = .ok (.goto (-80), 3) := by decide +kernel
theorem dX9_describe_126 : decode cX9_describe 126 = .ok (.aload_n 0, 1) := by decide +kernel
theorem dX9_describe_127 : decode cX9_describe 127 = .ok (.iload_n 2, 1) := by decide +kernel
theorem dX9_describe_128 : decode cX9_describe 128 = .ok (.aload_n 0, 1) := by decide +kernel
theorem dX9_describe_129 : decode cX9_describe 129 = .ok (.getfield 140, 3) := by decide +kernel
theorem dX9_describe_132 : decode cX9_describe 132 = .ok (.if_icmp .ge 7, 3) := by decide +kernel
theorem dX9_describe_135 : decode cX9_describe 135 = .ok (.iconst 0, 1) := by decide +kernel
theorem dX9_describe_136 : decode cX9_describe 136 = .ok (.goto 4, 3) := by decide +kernel
theorem dX9_describe_139 : decode cX9_describe 139 = .ok (.iconst 1, 1) := by decide +kernel
theorem dX9_describe_140 : decode cX9_describe 140 = .ok (.putfield 41, 3) := by decide +kernel
theorem dX9_describe_143 : decode cX9_describe 143 = .ok (.aload_n 0, 1) := by decide +kernel
theorem dX9_describe_144 : decode cX9_describe 144 = .ok (.getfield 41, 3) := by decide +kernel
theorem dX9_describe_147 : decode cX9_describe 147 = .ok (.ifCond .eq 7, 3) := by decide +kernel
theorem dX9_describe_150 : decode cX9_describe 150 = .ok (.iconst 0, 1) := by decide +kernel
theorem dX9_describe_151 : decode cX9_describe 151 = .ok (.goto 18, 3) := by decide +kernel
theorem dX9_describe_154 : decode cX9_describe 154 = .ok (.iload_n 2, 1) := by decide +kernel
theorem dX9_describe_155 : decode cX9_describe 155 = .ok (.ifCond .ge 10, 3) := by decide +kernel
theorem dX9_describe_158 : decode cX9_describe 158 = .ok (.aload_n 0, 1) := by decide +kernel
theorem dX9_describe_159 : decode cX9_describe 159 = .ok (.getfield 140, 3) := by decide +kernel
theorem dX9_describe_162 : decode cX9_describe 162 = .ok (.goto 7, 3) := by decide +kernel
theorem dX9_describe_165 : decode cX9_describe 165 = .ok (.aload_n 0, 1) := by decide +kernel
theorem dX9_describe_166 : decode cX9_describe 166 = .ok (.getfield 146, 3) := by decide +kernel
theorem dX9_describe_169 : decode cX9_describe 169 = .ok (.ireturn, 1) := by decide +kernel
set_option maxRecDepth 20000 in
theorem ggX9_describe_X9_isToken : GoodIn wsX9_describe wsX9_isToken := goodIn_ca (goodIn_r _ [10, 4, 11, 12, 9, 13, 29, 30, 31, 32, 33, 34, 35, 36, 37, 38, 39, 40, 41, 42, 43, 44, 45, 46, 47, 48] (by decide +kernel) (by decide +kernel)) (goodIn_sub (fun _ h => List.mem_cons_of_mem _ (List.mem_append_right _ h)) (by decide +kernel))
set_option maxRecDepth 20000 in
theorem gX9_describe_X9_isToken : GoodIn wsX9_describe (wsV RX9 118 RX9 yX9_isToken wsX9_isToken) := goodIn_app (goodIn_of _ (by decide +kernel)) ggX9_describe_X9_isToken
set_option maxRecDepth 20000 in
theorem ggX9_describe_X9_part : GoodIn wsX9_describe wsX9_part := goodIn_ca (goodIn_r _ [21, 4, 29, 30, 31, 32, 33, 34, 35, 36, 37, 38, 39, 40, 41, 42, 43, 44, 45, 46, 47, 48] (by decide +kernel) (by decide +kernel)) (goodIn_sub (fun _ h => List.mem_cons_of_mem _ (List.mem_append_right _ h)) (by decide +kernel))
set_option maxRecDepth 20000 in
theorem gX9_describe_X9_part : GoodIn wsX9_describe (wsV RX9 55 RX9 yX9_part wsX9_part) := goodIn_app (goodIn_of _ (by decide +kernel)) ggX9_describe_X9_part
set_option maxRecDepth 20000 in
theorem ggX9_describe_X9_letterOf : GoodIn wsX9_describe wsX9_letterOf := goodIn_r _ [24] (by decide +kernel) (by decide +kernel)
set_option maxRecDepth 20000 in
theorem gX9_describe_X9_letterOf : GoodIn wsX9_describe (va_wsS RX9 153 yX9_letterOf wsX9_letterOf) := goodIn_app (goodIn_of _ (by decide +kernel)) ggX9_describe_X9_letterOf
set_option maxRecDepth 20000 in
theorem ggX9_describe_X9_writes : GoodIn wsX9_describe wsX9_writes := goodIn_r _ [17, 2, 3, 5, 29, 30, 31, 32, 33, 34, 35, 36, 37, 38, 39, 40, 41, 42, 43, 44, 45, 46, 47, 48] (by decide +kernel) (by decide +kernel)
set_option maxRecDepth 20000 in
theorem gX9_describe_X9_writes : GoodIn wsX9_describe (wsV RX9 149 RX9 yX9_writes wsX9_writes) := goodIn_app (goodIn_of _ (by decide +kernel)) ggX9_describe_X9_writes
set_option maxRecDepth 20000 in
theorem ggX9_describe_X9_writesNumber : GoodIn wsX9_describe wsX9_writesNumber := goodIn_r _ [28, 14, 15, 16, 9, 17, 2, 3, 5, 29, 30, 31, 32, 33, 34, 35, 36, 37, 38, 39, 40, 41, 42, 43, 44, 45, 46, 47, 48] (by decide +kernel) (by decide +kernel)
set_option maxRecDepth 20000 in
theorem gX9_describe_X9_writesNumber : GoodIn wsX9_describe (wsV RX9 156 RX9 yX9_writesNumber wsX9_writesNumber) := goodIn_app (goodIn_of _ (by decide +kernel)) ggX9_describe_X9_writesNumber
def rm_X9_describe : Room := { frames := 3, cells := 0, slots := 0, locals := 59 }
set_option maxHeartbeats 4000000 in
set_option maxRecDepth 100000 in
theorem c_X9_describe (l : Launch) {G : zG} {ad : Nat → Nat} {σ σ' : zs} {a1 a2 : Int32} {r : Int32} (hf : f_X9_describe σ a1 a2 = some (r, σ')) : xMi l yX9_describe wsX9_describe rm_X9_describe G ad σ [.ref (ad 65), .int a1, .int a2] r σ' := by
  intro sz nb a g hs
  refine Met.ofW (cc := cX9_describe) (maxL := 4) (ret := (some .int)) (by decide) rfl ?_
  intro p e s m args below meth c s₁ B hml hv
  obtain ⟨rfl, hsz, hv⟩ := hv
  have hx := B.exec
  have hb := B.bytes
  have hr := B.returns
  have hts := atoms_spec (ws := wsX9_describe) B.pre
  have hown : s.vm.findClass RX9 = some m.cls := findClass_of_methodNamed B.named
  have hlocks := B.notSynchronized
  subst hsz
  have B := xB_start hs hv
  have hinRX9 : ∀ w ∈ wsX90, w ∈ wsX9_describe := by decide +kernel
  have hl := lv_entry ([.ref (ad 65), .int a1, .int a2]) (n := 4) (Nat.le_of_ble_eq_true rfl)
  rw [lg_entry_eq]
  generalize (lg_sl ([.ref (ad 65), .int a1, .int a2]) ++ List.replicate (4 - (lg_sl ([.ref (ad 65), .int a1, .int a2])).length) Slot.unset).toArray = ls at hl ⊢
  have hl : lv_has ls 4 [(0, .ref (ad 65)), (1, .int a1), (2, .int a2)] := hl
  generalize hAe : xA ad a s.heap.size = A at B ⊢
  have L140 : ∀ (σ : zs) (v2 : Int32) (s0 : Int32) (H : Heap) (locs : List Loc) (ls : Array Slot), f_X9_describe_140 σ v2 s0 = some (r, σ') → xB A s G ad σ H locs → lv_has ls 4 [(0, .ref (ad 65)), (2, .int v2)] → W p l e (headSpec wsX9_describe rm_X9_describe).room s m ([.ref (ad 65), .int a1, .int a2] : List Value).toArray below meth c H locs 0 0 (MQ below (va_Qi (fun r' (u : xV) => r' = r ∧ xQ σ' u) (xPost G ad σ' A) A) ([.ref (ad 65), .int a1, .int a2] : List Value).toArray s 0 0 A) (F0 m 140 ls [.int s0, .ref (ad 65)]) := by
    intro σ v2 s0 H locs ls hf B hl
    unfold f_X9_describe_140 at hf
    refine x_puti hx hb hts hinRX9 hown tyX9 tyX9_ok nmX9 B 65 3 (by decide) (by decide) (fun _ => rfl) rfl rfl (by decide) (by decide +kernel) rfl rfl rfl rfl dX9_describe_140 (fun H locs B => ?_)
    refine lv_aload_n hx hb dX9_describe_143 rfl (lv_at hl 0 rfl) ?_
    refine x_geti hx hb hts hinRX9 hown B 65 3 (by decide) (fun _ => rfl) rfl rfl (by decide) (by decide +kernel) rfl dX9_describe_144 ?_
    refine lv_if_eq (tgt := 154) hx hb dX9_describe_147 (by decide) (fun hc => ?_) (fun hc => ?_)
    · have hf := zif_t hc hf
      refine lv_iload_n hx hb dX9_describe_154 rfl (lv_at hl 1 rfl) ?_
      refine lv_if_ge (tgt := 165) hx hb dX9_describe_155 (by decide) (fun hc => ?_) (fun hc => ?_)
      · have hf := zif_t hc hf
        refine lv_aload_n hx hb dX9_describe_165 rfl (lv_at hl 0 rfl) ?_
        refine x_geti hx hb hts hinRX9 hown B 65 17 (by decide) (fun _ => rfl) rfl rfl (by decide) (by decide +kernel) rfl dX9_describe_166 ?_
        refine W.widen (k := 0) (n := 0) (Nat.le_of_ble_eq_true rfl) (Nat.le_of_ble_eq_true rfl) ?_
        exact x_iret hx hb hr rfl hlocks B hf dX9_describe_169
      · have hf := zif_f hc hf
        refine lv_aload_n hx hb dX9_describe_158 rfl (lv_at hl 0 rfl) ?_
        refine x_geti hx hb hts hinRX9 hown B 65 15 (by decide) (fun _ => rfl) rfl rfl (by decide) (by decide +kernel) rfl dX9_describe_159 ?_
        refine lv_goto (tgt := 169) hx hb dX9_describe_162 (by decide) ?_
        refine W.widen (k := 0) (n := 0) (Nat.le_of_ble_eq_true rfl) (Nat.le_of_ble_eq_true rfl) ?_
        exact x_iret hx hb hr rfl hlocks B hf dX9_describe_169
    · have hf := zif_f hc hf
      refine lv_iconst (v := (0 : Int32)) hx hb dX9_describe_150 (by decide) ?_
      refine lv_goto (tgt := 169) hx hb dX9_describe_151 (by decide) ?_
      refine W.widen (k := 0) (n := 0) (Nat.le_of_ble_eq_true rfl) (Nat.le_of_ble_eq_true rfl) ?_
      exact x_iret hx hb hr rfl hlocks B hf dX9_describe_169
  have L67 : ∀ (K43 : zs → Int32 → Int32 → Int32 → Option (Int32 × zs)) (hK43 : ∀ (σ : zs) (v1 : Int32) (v2 : Int32) (v3 : Int32) (H : Heap) (locs : List Loc) (ls : Array Slot), K43 σ v1 v2 v3 = some (r, σ') → xB A s G ad σ H locs → lv_has ls 4 [(0, .ref (ad 65)), (1, .int v1), (2, .int v2), (3, .int v3)] → W p l e (headSpec wsX9_describe rm_X9_describe).room s m ([.ref (ad 65), .int a1, .int a2] : List Value).toArray below meth c H locs 0 0 (MQ below (va_Qi (fun r' (u : xV) => r' = r ∧ xQ σ' u) (xPost G ad σ' A) A) ([.ref (ad 65), .int a1, .int a2] : List Value).toArray s 0 0 A) (F0 m 43 ls [])) (σ : zs) (v1 : Int32) (v2 : Int32) (v3 : Int32) (H : Heap) (locs : List Loc) (ls : Array Slot), f_X9_describe_67 K43 σ v1 v2 v3 = some (r, σ') → xB A s G ad σ H locs → lv_has ls 4 [(0, .ref (ad 65)), (1, .int v1), (2, .int v2), (3, .int v3)] → W p l e (headSpec wsX9_describe rm_X9_describe).room s m ([.ref (ad 65), .int a1, .int a2] : List Value).toArray below meth c H locs 0 0 (MQ below (va_Qi (fun r' (u : xV) => r' = r ∧ xQ σ' u) (xPost G ad σ' A) A) ([.ref (ad 65), .int a1, .int a2] : List Value).toArray s 0 0 A) (F0 m 67 ls []) := by
    intro K43 hK43 σ v1 v2 v3 H locs ls hf B hl
    unfold f_X9_describe_67 at hf
    refine lv_aload_n hx hb dX9_describe_67 rfl (lv_at hl 0 rfl) ?_
    refine lv_aload_n hx hb dX9_describe_68 rfl (lv_at hl 0 rfl) ?_
    refine lv_iload_n hx hb dX9_describe_69 rfl (lv_at hl 1 rfl) ?_
    refine lv_iload_n hx hb dX9_describe_70 rfl (lv_at hl 3 rfl) ?_
    refine lv_iconst (v := (0 : Int32)) hx hb dX9_describe_71 (by decide) ?_
    obtain ⟨r5, σ6, hu4, hf⟩ := zb_some hf
    refine x_i B (fun nb a g hs Bz => va_runV (As := [.int v1, .int v3, .int (0 : Int32)]) (rest := [.ref (ad 65)]) ⟨hx, hb, hml, hown, hts⟩ (c_X9_part l hu4 _ nb a g hs) (cwV 3 hts gX9_describe_X9_part rfl rfl rfl (by decide +kernel) ⟨Nat.le_of_ble_eq_true rfl, Nat.le_of_ble_eq_true rfl⟩) (x_preV Bz (by decide) (fun _ => rfl) rfl) rfl rfl hl.1 rfl (lv_room (Nat.le_of_ble_eq_true rfl)) dX9_describe_72 ⟨Nat.le_of_ble_eq_true rfl, Nat.le_of_ble_eq_true rfl⟩) (fun H locs B => ?_)
    obtain ⟨r8, σ9, hu7, hf⟩ := zb_some hf
    refine x_i B (fun nb a g hs Bz => va_runS (As := [.int r5]) (rest := [.ref (ad 65)]) ⟨hx, hb, hml, hown, hts⟩ (c_X9_letterOf l hu7 _ nb a g hs) (va_cwS 1 hts gX9_describe_X9_letterOf rfl rfl rfl (by decide +kernel) ⟨Nat.le_of_ble_eq_true rfl, Nat.le_of_ble_eq_true rfl⟩) (z_preS Bz) rfl rfl hl.1 rfl (lv_room (Nat.le_of_ble_eq_true rfl)) dX9_describe_75 ⟨Nat.le_of_ble_eq_true rfl, Nat.le_of_ble_eq_true rfl⟩) (fun H locs B => ?_)
    obtain ⟨r11, σ12, hu10, hf⟩ := zb_some hf
    refine x_v B (fun nb a g hs Bz => va_runV (As := [.int r8]) (rest := []) ⟨hx, hb, hml, hown, hts⟩ (c_X9_writes l hu10 _ nb a g hs) (cwV 1 hts gX9_describe_X9_writes rfl rfl rfl (by decide +kernel) ⟨Nat.le_of_ble_eq_true rfl, Nat.le_of_ble_eq_true rfl⟩) (x_preV Bz (by decide) (fun _ => rfl) rfl) rfl rfl hl.1 rfl (lv_room (Nat.le_of_ble_eq_true rfl)) dX9_describe_78 ⟨Nat.le_of_ble_eq_true rfl, Nat.le_of_ble_eq_true rfl⟩) (fun H locs B => ?_)
    refine lv_aload_n hx hb dX9_describe_81 rfl (lv_at hl 0 rfl) ?_
    refine lv_aload_n hx hb dX9_describe_82 rfl (lv_at hl 0 rfl) ?_
    refine lv_iload_n hx hb dX9_describe_83 rfl (lv_at hl 1 rfl) ?_
    refine lv_iload_n hx hb dX9_describe_84 rfl (lv_at hl 3 rfl) ?_
    refine lv_iconst (v := (1 : Int32)) hx hb dX9_describe_85 (by decide) ?_
    obtain ⟨r14, σ15, hu13, hf⟩ := zb_some hf
    refine x_i B (fun nb a g hs Bz => va_runV (As := [.int v1, .int v3, .int (1 : Int32)]) (rest := [.ref (ad 65)]) ⟨hx, hb, hml, hown, hts⟩ (c_X9_part l hu13 _ nb a g hs) (cwV 3 hts gX9_describe_X9_part rfl rfl rfl (by decide +kernel) ⟨Nat.le_of_ble_eq_true rfl, Nat.le_of_ble_eq_true rfl⟩) (x_preV Bz (by decide) (fun _ => rfl) rfl) rfl rfl hl.1 rfl (lv_room (Nat.le_of_ble_eq_true rfl)) dX9_describe_86 ⟨Nat.le_of_ble_eq_true rfl, Nat.le_of_ble_eq_true rfl⟩) (fun H locs B => ?_)
    obtain ⟨r17, σ18, hu16, hf⟩ := zb_some hf
    refine x_v B (fun nb a g hs Bz => va_runV (As := [.int r14]) (rest := []) ⟨hx, hb, hml, hown, hts⟩ (c_X9_writesNumber l hu16 _ nb a g hs) (cwV 1 hts gX9_describe_X9_writesNumber rfl rfl rfl (by decide +kernel) ⟨Nat.le_of_ble_eq_true rfl, Nat.le_of_ble_eq_true rfl⟩) (x_preV Bz (by decide) (fun _ => rfl) rfl) rfl rfl hl.1 rfl (lv_room (Nat.le_of_ble_eq_true rfl)) dX9_describe_89 ⟨Nat.le_of_ble_eq_true rfl, Nat.le_of_ble_eq_true rfl⟩) (fun H locs B => ?_)
    refine lv_aload_n hx hb dX9_describe_92 rfl (lv_at hl 0 rfl) ?_
    refine lv_iload_n hx hb dX9_describe_93 rfl (lv_at hl 1 rfl) ?_
    refine lv_iload_n hx hb dX9_describe_94 rfl (lv_at hl 3 rfl) ?_
    refine lv_iconst (v := (0 : Int32)) hx hb dX9_describe_95 (by decide) ?_
    obtain ⟨r20, σ21, hu19, hf⟩ := zb_some hf
    refine x_i B (fun nb a g hs Bz => va_runV (As := [.int v1, .int v3, .int (0 : Int32)]) (rest := []) ⟨hx, hb, hml, hown, hts⟩ (c_X9_part l hu19 _ nb a g hs) (cwV 3 hts gX9_describe_X9_part rfl rfl rfl (by decide +kernel) ⟨Nat.le_of_ble_eq_true rfl, Nat.le_of_ble_eq_true rfl⟩) (x_preV Bz (by decide) (fun _ => rfl) rfl) rfl rfl hl.1 rfl (lv_room (Nat.le_of_ble_eq_true rfl)) dX9_describe_96 ⟨Nat.le_of_ble_eq_true rfl, Nat.le_of_ble_eq_true rfl⟩) (fun H locs B => ?_)
    refine lv_iconst (v := (4 : Int32)) hx hb dX9_describe_99 (by decide) ?_
    refine lv_icmp_ne (tgt := 120) hx hb dX9_describe_100 (by decide) (fun hc => ?_) (fun hc => ?_)
    · have hf := zif_f hc hf
      refine lv_iinc (v := (v3 + (1 : Int32))) (lv' := [(3, .int (v3 + (1 : Int32))), (0, .ref (ad 65)), (1, .int v1), (2, .int v2)]) hx hb dX9_describe_120 hl (k := 3) rfl (zc1 (by decide)) (by decide) rfl (fun ls hl => ?_)
      refine lv_goto (tgt := 43) hx hb dX9_describe_123 (by decide) ?_
      exact hK43 _ _ _ _ _ _ _ hf B (lv_sub hl [1, 2, 3, 0] rfl)
    · have hf := zif_t hc hf
      refine lv_aload_n hx hb dX9_describe_103 rfl (lv_at hl 0 rfl) ?_
      refine lv_bipush (v := (45 : Int32)) hx hb dX9_describe_104 (by decide) ?_
      obtain ⟨r23, σ24, hu22, hf⟩ := zb_some hf
      refine x_v B (fun nb a g hs Bz => va_runV (As := [.int (45 : Int32)]) (rest := []) ⟨hx, hb, hml, hown, hts⟩ (c_X9_writes l hu22 _ nb a g hs) (cwV 1 hts gX9_describe_X9_writes rfl rfl rfl (by decide +kernel) ⟨Nat.le_of_ble_eq_true rfl, Nat.le_of_ble_eq_true rfl⟩) (x_preV Bz (by decide) (fun _ => rfl) rfl) rfl rfl hl.1 rfl (lv_room (Nat.le_of_ble_eq_true rfl)) dX9_describe_106 ⟨Nat.le_of_ble_eq_true rfl, Nat.le_of_ble_eq_true rfl⟩) (fun H locs B => ?_)
      refine lv_aload_n hx hb dX9_describe_109 rfl (lv_at hl 0 rfl) ?_
      refine lv_aload_n hx hb dX9_describe_110 rfl (lv_at hl 0 rfl) ?_
      refine lv_iload_n hx hb dX9_describe_111 rfl (lv_at hl 1 rfl) ?_
      refine lv_iload_n hx hb dX9_describe_112 rfl (lv_at hl 3 rfl) ?_
      refine lv_iconst (v := (2 : Int32)) hx hb dX9_describe_113 (by decide) ?_
      obtain ⟨r26, σ27, hu25, hf⟩ := zb_some hf
      refine x_i B (fun nb a g hs Bz => va_runV (As := [.int v1, .int v3, .int (2 : Int32)]) (rest := [.ref (ad 65)]) ⟨hx, hb, hml, hown, hts⟩ (c_X9_part l hu25 _ nb a g hs) (cwV 3 hts gX9_describe_X9_part rfl rfl rfl (by decide +kernel) ⟨Nat.le_of_ble_eq_true rfl, Nat.le_of_ble_eq_true rfl⟩) (x_preV Bz (by decide) (fun _ => rfl) rfl) rfl rfl hl.1 rfl (lv_room (Nat.le_of_ble_eq_true rfl)) dX9_describe_114 ⟨Nat.le_of_ble_eq_true rfl, Nat.le_of_ble_eq_true rfl⟩) (fun H locs B => ?_)
      obtain ⟨r29, σ30, hu28, hf⟩ := zb_some hf
      refine x_v B (fun nb a g hs Bz => va_runV (As := [.int r26]) (rest := []) ⟨hx, hb, hml, hown, hts⟩ (c_X9_writesNumber l hu28 _ nb a g hs) (cwV 1 hts gX9_describe_X9_writesNumber rfl rfl rfl (by decide +kernel) ⟨Nat.le_of_ble_eq_true rfl, Nat.le_of_ble_eq_true rfl⟩) (x_preV Bz (by decide) (fun _ => rfl) rfl) rfl rfl hl.1 rfl (lv_room (Nat.le_of_ble_eq_true rfl)) dX9_describe_117 ⟨Nat.le_of_ble_eq_true rfl, Nat.le_of_ble_eq_true rfl⟩) (fun H locs B => ?_)
      refine lv_iinc (v := (v3 + (1 : Int32))) (lv' := [(3, .int (v3 + (1 : Int32))), (0, .ref (ad 65)), (1, .int v1), (2, .int v2)]) hx hb dX9_describe_120 hl (k := 3) rfl (zc1 (by decide)) (by decide) rfl (fun ls hl => ?_)
      refine lv_goto (tgt := 43) hx hb dX9_describe_123 (by decide) ?_
      exact hK43 _ _ _ _ _ _ _ hf B (lv_sub hl [1, 2, 3, 0] rfl)
  have L43 : ∀ (n : Nat) (σ : zs) (v1 : Int32) (v2 : Int32) (v3 : Int32) (H : Heap) (locs : List Loc) (ls : Array Slot), zlp3 (f_X9_describe_43) n σ v1 v2 v3 = some (r, σ') → xB A s G ad σ H locs → lv_has ls 4 [(0, .ref (ad 65)), (1, .int v1), (2, .int v2), (3, .int v3)] → W p l e (headSpec wsX9_describe rm_X9_describe).room s m ([.ref (ad 65), .int a1, .int a2] : List Value).toArray below meth c H locs 0 0 (MQ below (va_Qi (fun r' (u : xV) => r' = r ∧ xQ σ' u) (xPost G ad σ' A) A) ([.ref (ad 65), .int a1, .int a2] : List Value).toArray s 0 0 A) (F0 m 43 ls []) := by
    intro n
    induction n with
    | zero =>
      intro σ v1 v2 v3 H locs ls hf
      cases hf
    | succ n ih =>
      intro σ v1 v2 v3 H locs ls hf B hl
      have hf : f_X9_describe_43 (zlp3 (f_X9_describe_43) n) σ v1 v2 v3 = some (r, σ') := hf
      unfold f_X9_describe_43 at hf
      refine lv_iload_n hx hb dX9_describe_43 rfl (lv_at hl 3 rfl) ?_
      refine lv_aload_n hx hb dX9_describe_44 rfl (lv_at hl 0 rfl) ?_
      refine x_getr hx hb hts hinRX9 hown B 65 0 66 (by decide) (by decide) (fun _ => rfl) rfl rfl (by decide) (by decide +kernel) rfl dX9_describe_45 ?_
      refine lv_sipush (v := (191 : Int32)) hx hb dX9_describe_48 (by decide) ?_
      refine lv_iload_n hx hb dX9_describe_51 rfl (lv_at hl 1 rfl) ?_
      refine lv_iadd hx hb dX9_describe_52 ?_
      obtain ⟨hg, hf⟩ := zg_some hf
      refine x_iald hx hb B 66 (by decide) (fun _ => rfl) (zin_ok hg) dX9_describe_53 ?_
      refine lv_icmp_ge (tgt := 126) hx hb dX9_describe_54 (by decide) (fun hc => ?_) (fun hc => ?_)
      · have hf := zif_t hc hf
        refine lv_aload_n hx hb dX9_describe_126 rfl (lv_at hl 0 rfl) ?_
        refine lv_iload_n hx hb dX9_describe_127 rfl (lv_at hl 2 rfl) ?_
        refine lv_aload_n hx hb dX9_describe_128 rfl (lv_at hl 0 rfl) ?_
        refine x_geti hx hb hts hinRX9 hown B 65 15 (by decide) (fun _ => rfl) rfl rfl (by decide) (by decide +kernel) rfl dX9_describe_129 ?_
        refine lv_icmp_ge (tgt := 139) hx hb dX9_describe_132 (by decide) (fun hc => ?_) (fun hc => ?_)
        · have hf := zif_t hc hf
          refine lv_iconst (v := (1 : Int32)) hx hb dX9_describe_139 (by decide) ?_
          exact L140  _ _ _ _ _ _ hf B (lv_sub hl [0, 2] rfl)
        · have hf := zif_f hc hf
          refine lv_iconst (v := (0 : Int32)) hx hb dX9_describe_135 (by decide) ?_
          refine lv_goto (tgt := 140) hx hb dX9_describe_136 (by decide) ?_
          exact L140  _ _ _ _ _ _ hf B (lv_sub hl [0, 2] rfl)
      · have hf := zif_f hc hf
        refine lv_iload_n hx hb dX9_describe_57 rfl (lv_at hl 3 rfl) ?_
        refine lv_if_le (tgt := 67) hx hb dX9_describe_58 (by decide) (fun hc => ?_) (fun hc => ?_)
        · have hf := zif_t hc hf
          exact L67 _ ih  _ _ _ _ _ _ _ hf B (lv_sub hl [0, 1, 2, 3] rfl)
        · have hf := zif_f hc hf
          refine lv_aload_n hx hb dX9_describe_61 rfl (lv_at hl 0 rfl) ?_
          refine lv_bipush (v := (59 : Int32)) hx hb dX9_describe_62 (by decide) ?_
          obtain ⟨r32, σ33, hu31, hf⟩ := zb_some hf
          refine x_v B (fun nb a g hs Bz => va_runV (As := [.int (59 : Int32)]) (rest := []) ⟨hx, hb, hml, hown, hts⟩ (c_X9_writes l hu31 _ nb a g hs) (cwV 1 hts gX9_describe_X9_writes rfl rfl rfl (by decide +kernel) ⟨Nat.le_of_ble_eq_true rfl, Nat.le_of_ble_eq_true rfl⟩) (x_preV Bz (by decide) (fun _ => rfl) rfl) rfl rfl hl.1 rfl (lv_room (Nat.le_of_ble_eq_true rfl)) dX9_describe_64 ⟨Nat.le_of_ble_eq_true rfl, Nat.le_of_ble_eq_true rfl⟩) (fun H locs B => ?_)
          exact L67 _ ih  _ _ _ _ _ _ _ hf B (lv_sub hl [0, 1, 2, 3] rfl)
  have L19 : ∀ (σ : zs) (v1 : Int32) (v2 : Int32) (s0 : Int32) (H : Heap) (locs : List Loc) (ls : Array Slot), f_X9_describe_19 σ v1 v2 s0 = some (r, σ') → xB A s G ad σ H locs → lv_has ls 4 [(0, .ref (ad 65)), (1, .int v1), (2, .int v2)] → W p l e (headSpec wsX9_describe rm_X9_describe).room s m ([.ref (ad 65), .int a1, .int a2] : List Value).toArray below meth c H locs 0 0 (MQ below (va_Qi (fun r' (u : xV) => r' = r ∧ xQ σ' u) (xPost G ad σ' A) A) ([.ref (ad 65), .int a1, .int a2] : List Value).toArray s 0 0 A) (F0 m 19 ls [.int s0, .ref (ad 65)]) := by
    intro σ v1 v2 s0 H locs ls hf B hl
    unfold f_X9_describe_19 at hf
    refine x_puti hx hb hts hinRX9 hown tyX9 tyX9_ok nmX9 B 65 3 (by decide) (by decide) (fun _ => rfl) rfl rfl (by decide) (by decide +kernel) rfl rfl rfl rfl dX9_describe_19 (fun H locs B => ?_)
    refine lv_aload_n hx hb dX9_describe_22 rfl (lv_at hl 0 rfl) ?_
    refine x_geti hx hb hts hinRX9 hown B 65 3 (by decide) (fun _ => rfl) rfl rfl (by decide) (by decide +kernel) rfl dX9_describe_23 ?_
    refine lv_if_eq (tgt := 31) hx hb dX9_describe_26 (by decide) (fun hc => ?_) (fun hc => ?_)
    · have hf := zif_t hc hf
      refine lv_aload_n hx hb dX9_describe_31 rfl (lv_at hl 0 rfl) ?_
      refine lv_iconst (v := (0 : Int32)) hx hb dX9_describe_32 (by decide) ?_
      refine x_puti hx hb hts hinRX9 hown tyX9 tyX9_ok nmX9 B 65 15 (by decide) (by decide) (fun _ => rfl) rfl rfl (by decide) (by decide +kernel) rfl rfl rfl rfl dX9_describe_33 (fun H locs B => ?_)
      refine lv_aload_n hx hb dX9_describe_36 rfl (lv_at hl 0 rfl) ?_
      refine lv_iload_n hx hb dX9_describe_37 rfl (lv_at hl 2 rfl) ?_
      refine x_puti hx hb hts hinRX9 hown tyX9 tyX9_ok nmX9 B 65 16 (by decide) (by decide) (fun _ => rfl) rfl rfl (by decide) (by decide +kernel) rfl rfl rfl rfl dX9_describe_38 (fun H locs B => ?_)
      refine lv_iconst (v := (0 : Int32)) hx hb dX9_describe_41 (by decide) ?_
      refine lv_istore_n (lv' := [(3, .int (0 : Int32)), (0, .ref (ad 65)), (1, .int v1), (2, .int v2)]) hx hb dX9_describe_42 rfl hl (by decide) rfl (fun ls hl => ?_)
      exact L43  _ _ _ _ _ _ _ _ hf B (lv_sub hl [1, 2, 3, 0] rfl)
    · have hf := zif_f hc hf
      refine lv_iconst (v := (0 : Int32)) hx hb dX9_describe_29 (by decide) ?_
      refine W.widen (k := 0) (n := 0) (Nat.le_of_ble_eq_true rfl) (Nat.le_of_ble_eq_true rfl) ?_
      exact x_iret hx hb hr rfl hlocks B hf dX9_describe_30
  unfold f_X9_describe at hf
  refine lv_aload_n hx hb dX9_describe_0 rfl (lv_at hl 0 rfl) ?_
  refine lv_aload_n hx hb dX9_describe_1 rfl (lv_at hl 0 rfl) ?_
  refine lv_iload_n hx hb dX9_describe_2 rfl (lv_at hl 1 rfl) ?_
  obtain ⟨r2, σ3, hu1, hf⟩ := zb_some hf
  refine x_i B (fun nb a g hs Bz => va_runV (As := [.int a1]) (rest := [.ref (ad 65)]) ⟨hx, hb, hml, hown, hts⟩ (c_X9_isToken l hu1 _ nb a g hs) (cwV 1 hts gX9_describe_X9_isToken rfl rfl rfl (by decide +kernel) ⟨Nat.le_of_ble_eq_true rfl, Nat.le_of_ble_eq_true rfl⟩) (x_preV Bz (by decide) (fun _ => rfl) rfl) rfl rfl hl.1 rfl (lv_room (Nat.le_of_ble_eq_true rfl)) dX9_describe_3 ⟨Nat.le_of_ble_eq_true rfl, Nat.le_of_ble_eq_true rfl⟩) (fun H locs B => ?_)
  refine lv_if_eq (tgt := 18) hx hb dX9_describe_6 (by decide) (fun hc => ?_) (fun hc => ?_)
  · have hf := zif_t hc hf
    refine lv_iconst (v := (1 : Int32)) hx hb dX9_describe_18 (by decide) ?_
    exact L19  _ _ _ _ _ _ _ hf B (lv_sub hl [0, 1, 2] rfl)
  · have hf := zif_f hc hf
    refine lv_iload_n hx hb dX9_describe_9 rfl (lv_at hl 2 rfl) ?_
    refine lv_iconst (v := (-1 : Int32)) hx hb dX9_describe_10 (by decide) ?_
    refine lv_icmp_lt (tgt := 18) hx hb dX9_describe_11 (by decide) (fun hc => ?_) (fun hc => ?_)
    · have hf := zif_t hc hf
      refine lv_iconst (v := (1 : Int32)) hx hb dX9_describe_18 (by decide) ?_
      exact L19  _ _ _ _ _ _ _ hf B (lv_sub hl [0, 1, 2] rfl)
    · have hf := zif_f hc hf
      refine lv_iconst (v := (0 : Int32)) hx hb dX9_describe_14 (by decide) ?_
      refine lv_goto (tgt := 19) hx hb dX9_describe_15 (by decide) ?_
      exact L19  _ _ _ _ _ _ _ hf B (lv_sub hl [0, 1, 2] rfl)
