theorem dX9_request_0 : decode cX9_request 0 = .ok (.aload_n 0, 1) := by decide +kernel
theorem dX9_request_1 : decode cX9_request 1 = .ok (.iload_n 1, 1) := by decide +kernel
theorem dX9_request_2 : decode cX9_request 2 = .ok (.invokestatic 78, 3) := by decide +kernel
theorem dX9_request_5 : decode cX9_request 5 = .ok (.ifCond .eq 11, 3) := by decide +kernel
theorem dX9_request_8 : decode cX9_request 8 = .ok (.aload_n 0, 1) := by decide +kernel
theorem dX9_request_9 : decode cX9_request 9 = .ok (.iload_n 2, 1) := by decide +kernel
theorem dX9_request_10 : decode cX9_request 10 = .ok (.invokevirtual 118, 3) := by decide +kernel
theorem dX9_request_13 : decode cX9_request 13 = .ok (.ifCond .ne 7, 3) := by decide +kernel
theorem dX9_request_16 : decode cX9_request 16 = .ok (.iconst 1, 1) := by decide +kernel
theorem dX9_request_17 : decode cX9_request 17 = .ok (.goto 24, 3) := by decide +kernel
theorem dX9_request_20 : decode cX9_request 20 = .ok (.iload_n 3, 1) := by decide +kernel
theorem dX9_request_21 : decode cX9_request 21 = .ok (.iconst 1, 1) := by decide +kernel
theorem dX9_request_22 : decode cX9_request 22 = .ok (.if_icmp .eq 14, 3) := by decide +kernel
theorem dX9_request_25 : decode cX9_request 25 = .ok (.iload_n 3, 1) := by decide +kernel
theorem dX9_request_26 : decode cX9_request 26 = .ok (.iconst 2, 1) := by decide +kernel
theorem dX9_request_27 : decode cX9_request 27 = .ok (.if_icmp .eq 9, 3) := by decide +kernel
theorem dX9_request_30 : decode cX9_request 30 = .ok (.iload_n 3, 1) := by decide +kernel
theorem dX9_request_31 : decode cX9_request 31 = .ok (.bipush 8, 2) := by decide +kernel
theorem dX9_request_33 : decode cX9_request 33 = .ok (.if_icmp .ne 7, 3) := by decide +kernel
theorem dX9_request_36 : decode cX9_request 36 = .ok (.iconst 0, 1) := by decide +kernel
theorem dX9_request_37 : decode cX9_request 37 = .ok (.goto 4, 3) := by decide +kernel
theorem dX9_request_40 : decode cX9_request 40 = .ok (.iconst 2, 1) := by decide +kernel
theorem dX9_request_41 : decode cX9_request 41 = .ok (.putfield 41, 3) := by decide +kernel
theorem dX9_request_44 : decode cX9_request 44 = .ok (.aload_n 0, 1) := by decide +kernel
theorem dX9_request_45 : decode cX9_request 45 = .ok (.getfield 41, 3) := by decide +kernel
theorem dX9_request_48 : decode cX9_request 48 = .ok (.ifCond .eq 5, 3) := by decide +kernel
theorem dX9_request_51 : decode cX9_request 51 = .ok (.iconst 0, 1) := by decide +kernel
theorem dX9_request_52 : decode cX9_request 52 = .ok (.ireturn, 1) := by decide +kernel
theorem dX9_request_53 : decode cX9_request 53 = .ok (.aload_n 0, 1) := by decide +kernel
theorem dX9_request_54 : decode cX9_request 54 = .ok (.iload_n 1, 1) := by decide +kernel
theorem dX9_request_55 : decode cX9_request 55 = .ok (.iload_n 2, 1) := by decide +kernel
theorem dX9_request_56 : decode cX9_request 56 = .ok (.iload_n 3, 1) := by decide +kernel
theorem dX9_request_57 : decode cX9_request 57 = .ok (.iload 4, 2) := by decide +kernel
theorem dX9_request_59 : decode cX9_request 59 = .ok (.invokevirtual 124, 3) := by decide +kernel
theorem dX9_request_62 : decode cX9_request 62 = .ok (.istore 5, 2) := by decide +kernel
theorem dX9_request_64 : decode cX9_request 64 = .ok (.aload_n 0, 1) := by decide +kernel
theorem dX9_request_65 : decode cX9_request 65 = .ok (.sipush 1000, 3) := by decide +kernel
theorem dX9_request_68 : decode cX9_request 68 = .ok (.iload_n 1, 1) := by decide +kernel
theorem dX9_request_69 : decode cX9_request 69 = .ok (.imul, 1) := by decide +kernel
theorem dX9_request_70 : decode cX9_request 70 = .ok (.bipush 10, 2) := by decide +kernel
theorem dX9_request_72 : decode cX9_request 72 = .ok (.iload_n 2, 1) := by decide +kernel
theorem dX9_request_73 : decode cX9_request 73 = .ok (.imul, 1) := by decide +kernel
theorem dX9_request_74 : decode cX9_request 74 = .ok (.iadd, 1) := by decide +kernel
theorem dX9_request_75 : decode cX9_request 75 = .ok (.iload 5, 2) := by decide +kernel
theorem dX9_request_77 : decode cX9_request 77 = .ok (.ifCond .eq 7, 3) := by decide +kernel
theorem dX9_request_80 : decode cX9_request 80 = .ok (.iconst 1, 1) := by decide +kernel
theorem dX9_request_81 : decode cX9_request 81 = .ok (.goto 4, 3) := by decide +kernel
theorem dX9_request_84 : decode cX9_request 84 = .ok (.iconst 0, 1) := by decide +kernel
theorem dX9_request_85 : decode cX9_request 85 = .ok (.iadd, 1) := by decide +kernel
theorem dX9_request_86 : decode cX9_request 86 = .ok (.invokevirtual 190, 3) := by decide +kernel
theorem dX9_request_89 : decode cX9_request 89 = .ok (.aload_n 0, 1) := by decide +kernel
theorem dX9_request_90 : decode cX9_request 90 = .ok (.getfield 9, 3) := by decide +kernel
theorem dX9_request_93 : decode cX9_request 93 = .ok (.iload 5, 2) := by decide +kernel
theorem dX9_request_95 : decode cX9_request 95 = .ok (.ifCond .eq 7, 3) := by decide +kernel
theorem dX9_request_98 : decode cX9_request 98 = .ok (.iconst 4, 1) := by decide +kernel
theorem dX9_request_99 : decode cX9_request 99 = .ok (.goto 4, 3) := by decide +kernel
theorem dX9_request_102 : decode cX9_request 102 = .ok (.iconst 5, 1) := by decide +kernel
theorem dX9_request_103 : decode cX9_request 103 = .ok (.dup2, 1) := by decide +kernel
theorem dX9_request_104 : decode cX9_request 104 = .ok (.iaload, 1) := by decide +kernel
theorem dX9_request_105 : decode cX9_request 105 = .ok (.iconst 1, 1) := by decide +kernel
theorem dX9_request_106 : decode cX9_request 106 = .ok (.iadd, 1) := by decide +kernel
theorem dX9_request_107 : decode cX9_request 107 = .ok (.iastore, 1) := by decide +kernel
theorem dX9_request_108 : decode cX9_request 108 = .ok (.aload_n 0, 1) := by decide +kernel
theorem dX9_request_109 : decode cX9_request 109 = .ok (.iload 5, 2) := by decide +kernel
theorem dX9_request_111 : decode cX9_request 111 = .ok (.ifCond .eq 7, 3) := by decide +kernel
theorem dX9_request_114 : decode cX9_request 114 = .ok (.iconst 0, 1) := by decide +kernel
theorem dX9_request_115 : decode cX9_request 115 = .ok (.goto 4, 3) := by decide +kernel
theorem dX9_request_118 : decode cX9_request 118 = .ok (.iconst 3, 1) := by decide +kernel
theorem dX9_request_119 : decode cX9_request 119 = .ok (.putfield 41, 3) := by decide +kernel
theorem dX9_request_122 : decode cX9_request 122 = .ok (.iload 5, 2) := by decide +kernel
theorem dX9_request_124 : decode cX9_request 124 = .ok (.ifCond .ne 5, 3) := by decide +kernel
theorem dX9_request_127 : decode cX9_request 127 = .ok (.iconst 0, 1) := by decide +kernel
theorem dX9_request_128 : decode cX9_request 128 = .ok (.ireturn, 1) := by decide +kernel
theorem dX9_request_129 : decode cX9_request 129 = .ok (.iload_n 2, 1) := by decide +kernel
theorem dX9_request_130 : decode cX9_request 130 = .ok (.istore 6, 2) := by decide +kernel
theorem dX9_request_132 : decode cX9_request 132 = .ok (.iload 6, 2) := by decide +kernel
theorem dX9_request_134 : decode cX9_request 134 = .ok (.ifCond .lt 33, 3) := by decide +kernel
theorem dX9_request_137 : decode cX9_request 137 = .ok (.aload_n 0, 1) := by decide +kernel
theorem dX9_request_138 : decode cX9_request 138 = .ok (.getfield 9, 3) := by decide +kernel
theorem dX9_request_141 : decode cX9_request 141 = .ok (.sipush 163, 3) := by decide +kernel
theorem dX9_request_144 : decode cX9_request 144 = .ok (.iload 6, 2) := by decide +kernel
theorem dX9_request_146 : decode cX9_request 146 = .ok (.iadd, 1) := by decide +kernel
theorem dX9_request_147 : decode cX9_request 147 = .ok (.dup2, 1) := by decide +kernel
theorem dX9_request_148 : decode cX9_request 148 = .ok (.iaload, 1) := by decide +kernel
theorem dX9_request_149 : decode cX9_request 149 = .ok (.iconst 1, 1) := by decide +kernel
theorem dX9_request_150 : decode cX9_request 150 = .ok (.iadd, 1) := by decide +kernel
theorem dX9_request_151 : decode cX9_request 151 = .ok (.iastore, 1) := by decide +kernel
theorem dX9_request_152 : decode cX9_request 152 = .ok (.aload_n 0, 1) := by decide +kernel
theorem dX9_request_153 : decode cX9_request 153 = .ok (.getfield 9, 3) := by decide +kernel
theorem dX9_request_156 : decode cX9_request 156 = .ok (.bipush 79, 2) := by decide +kernel
theorem dX9_request_158 : decode cX9_request 158 = .ok (.iload 6, 2) := by decide +kernel
theorem dX9_request_160 : decode cX9_request 160 = .ok (.iadd, 1) := by decide +kernel
theorem dX9_request_161 : decode cX9_request 161 = .ok (.iaload, 1) := by decide +kernel
theorem dX9_request_162 : decode cX9_request 162 = .ok (.istore 6, 2) := by decide +kernel
theorem dX9_request_164 : decode cX9_request 164 = .ok (.goto (-32), 3) := by decide +kernel
theorem dX9_request_167 : decode cX9_request 167 = .ok (.aload_n 0, 1) := by decide +kernel
theorem dX9_request_168 : decode cX9_request 168 = .ok (.getfield 9, 3) := by decide +kernel
theorem dX9_request_171 : decode cX9_request 171 = .ok (.bipush 51, 2) := by decide +kernel
theorem dX9_request_173 : decode cX9_request 173 = .ok (.iload_n 2, 1) := by decide +kernel
theorem dX9_request_174 : decode cX9_request 174 = .ok (.iadd, 1) := by decide +kernel
theorem dX9_request_175 : decode cX9_request 175 = .ok (.iaload, 1) := by decide +kernel
theorem dX9_request_176 : decode cX9_request 176 = .ok (.istore 6, 2) := by decide +kernel
theorem dX9_request_178 : decode cX9_request 178 = .ok (.aload_n 0, 1) := by decide +kernel
theorem dX9_request_179 : decode cX9_request 179 = .ok (.getfield 9, 3) := by decide +kernel
theorem dX9_request_182 : decode cX9_request 182 = .ok (.bipush 27, 2) := by decide +kernel
theorem dX9_request_184 : decode cX9_request 184 = .ok (.iload 6, 2) := by decide +kernel
theorem dX9_request_186 : decode cX9_request 186 = .ok (.iadd, 1) := by decide +kernel
theorem dX9_request_187 : decode cX9_request 187 = .ok (.iaload, 1) := by decide +kernel
theorem dX9_request_188 : decode cX9_request 188 = .ok (.istore 7, 2) := by decide +kernel
theorem dX9_request_190 : decode cX9_request 190 = .ok (.iload_n 3, 1) := by decide +kernel
theorem dX9_request_191 : decode cX9_request 191 = .ok (.iconst 2, 1) := by decide +kernel
theorem dX9_request_192 : decode cX9_request 192 = .ok (.if_icmp .ne 15, 3) := by decide +kernel
theorem dX9_request_195 : decode cX9_request 195 = .ok (.aload_n 0, 1) := by decide +kernel
theorem dX9_request_196 : decode cX9_request 196 = .ok (.getfield 9, 3) := by decide +kernel
theorem dX9_request_199 : decode cX9_request 199 = .ok (.bipush 27, 2) := by decide +kernel
theorem dX9_request_201 : decode cX9_request 201 = .ok (.iload 6, 2) := by decide +kernel
theorem dX9_request_203 : decode cX9_request 203 = .ok (.iadd, 1) := by decide +kernel
theorem dX9_request_204 : decode cX9_request 204 = .ok (.iload 4, 2) := by decide +kernel
theorem dX9_request_206 : decode cX9_request 206 = .ok (.iastore, 1) := by decide +kernel
theorem dX9_request_207 : decode cX9_request 207 = .ok (.iload_n 3, 1) := by decide +kernel
theorem dX9_request_208 : decode cX9_request 208 = .ok (.bipush 8, 2) := by decide +kernel
theorem dX9_request_210 : decode cX9_request 210 = .ok (.if_icmp .ne 28, 3) := by decide +kernel
theorem dX9_request_213 : decode cX9_request 213 = .ok (.aload_n 0, 1) := by decide +kernel
theorem dX9_request_214 : decode cX9_request 214 = .ok (.getfield 9, 3) := by decide +kernel
theorem dX9_request_217 : decode cX9_request 217 = .ok (.bipush 39, 2) := by decide +kernel
theorem dX9_request_219 : decode cX9_request 219 = .ok (.iload 6, 2) := by decide +kernel
theorem dX9_request_221 : decode cX9_request 221 = .ok (.iadd, 1) := by decide +kernel
theorem dX9_request_222 : decode cX9_request 222 = .ok (.dup2, 1) := by decide +kernel
theorem dX9_request_223 : decode cX9_request 223 = .ok (.iaload, 1) := by decide +kernel
theorem dX9_request_224 : decode cX9_request 224 = .ok (.iconst 1, 1) := by decide +kernel
theorem dX9_request_225 : decode cX9_request 225 = .ok (.iadd, 1) := by decide +kernel
theorem dX9_request_226 : decode cX9_request 226 = .ok (.iastore, 1) := by decide +kernel
theorem dX9_request_227 : decode cX9_request 227 = .ok (.aload_n 0, 1) := by decide +kernel
theorem dX9_request_228 : decode cX9_request 228 = .ok (.getfield 9, 3) := by decide +kernel
theorem dX9_request_231 : decode cX9_request 231 = .ok (.bipush 39, 2) := by decide +kernel
theorem dX9_request_233 : decode cX9_request 233 = .ok (.iload 6, 2) := by decide +kernel
theorem dX9_request_235 : decode cX9_request 235 = .ok (.iadd, 1) := by decide +kernel
theorem dX9_request_236 : decode cX9_request 236 = .ok (.iaload, 1) := by decide +kernel
theorem dX9_request_237 : decode cX9_request 237 = .ok (.ireturn, 1) := by decide +kernel
theorem dX9_request_238 : decode cX9_request 238 = .ok (.iload 7, 2) := by decide +kernel
theorem dX9_request_240 : decode cX9_request 240 = .ok (.ireturn, 1) := by decide +kernel
set_option maxRecDepth 20000 in
theorem ggX9_request_X9_isSubject : GoodIn wsX9_request wsX9_isSubject := goodIn_r _ [6, 7, 8, 5, 9] (by decide +kernel) (by decide +kernel)
set_option maxRecDepth 20000 in
theorem gX9_request_X9_isSubject : GoodIn wsX9_request (va_wsS RX9 78 yX9_isSubject wsX9_isSubject) := goodIn_app (goodIn_of _ (by decide +kernel)) ggX9_request_X9_isSubject
set_option maxRecDepth 20000 in
theorem ggX9_request_X9_allows : GoodIn wsX9_request wsX9_allows := goodIn_ca (goodIn_r _ [17, 2, 18, 19, 20, 5, 21, 22, 23, 24, 25, 26, 27, 28, 29, 30, 31, 32, 33, 34, 35, 36, 37, 38, 39, 40, 41, 42, 43, 44, 7, 8, 9, 45, 46, 47, 48, 57, 58, 59, 60, 61, 62, 63, 64, 65, 66, 67, 68, 69, 70, 71, 72, 73, 74, 75, 76] (by decide +kernel) (by decide +kernel)) (goodIn_sub (fun _ h => List.mem_cons_of_mem _ (List.mem_append_right _ h)) (by decide +kernel))
set_option maxRecDepth 20000 in
theorem gX9_request_X9_allows : GoodIn wsX9_request (wsV RX9 124 RX9 yX9_allows wsX9_allows) := goodIn_app (goodIn_of _ (by decide +kernel)) ggX9_request_X9_allows
set_option maxRecDepth 20000 in
theorem ggX9_request_X9_logs : GoodIn wsX9_request wsX9_logs := goodIn_ca (goodIn_r _ [52, 2, 53, 54, 55, 56, 57, 58, 59, 60, 61, 62, 63, 64, 65, 66, 67, 68, 69, 70, 71, 72, 73, 74, 75, 76] (by decide +kernel) (by decide +kernel)) (goodIn_sub (fun _ h => List.mem_cons_of_mem _ (List.mem_append_right _ h)) (by decide +kernel))
set_option maxRecDepth 20000 in
theorem gX9_request_X9_logs : GoodIn wsX9_request (wsV RX9 190 RX9 yX9_logs wsX9_logs) := goodIn_app (goodIn_of _ (by decide +kernel)) ggX9_request_X9_logs
set_option maxRecDepth 20000 in
theorem ggX9_request_X9_isToken : GoodIn wsX9_request wsX9_isToken := goodIn_ca (goodIn_r _ [13, 2, 7, 8, 5, 9, 57, 58, 59, 60, 61, 62, 63, 64, 65, 66, 67, 68, 69, 70, 71, 72, 73, 74, 75, 76] (by decide +kernel) (by decide +kernel)) (goodIn_sub (fun _ h => List.mem_cons_of_mem _ (List.mem_append_right _ h)) (by decide +kernel))
set_option maxRecDepth 20000 in
theorem gX9_request_X9_isToken : GoodIn wsX9_request (wsV RX9 118 RX9 yX9_isToken wsX9_isToken) := goodIn_app (goodIn_of _ (by decide +kernel)) ggX9_request_X9_isToken
def rm_X9_request : Room := { frames := 4, cells := 0, slots := 0, locals := 94 }
set_option maxHeartbeats 4000000 in
set_option maxRecDepth 100000 in
theorem c_X9_request (l : Launch) {G : zG} {ad : Nat → Nat} {σ σ' : zs} {a1 a2 a3 a4 : Int32} {r : Int32} (hf : f_X9_request σ a1 a2 a3 a4 = some (r, σ')) : xMi l yX9_request wsX9_request rm_X9_request G ad σ [.ref (ad 65), .int a1, .int a2, .int a3, .int a4] r σ' := by
  intro sz nb a g hs
  refine Met.ofW (cc := cX9_request) (maxL := 8) (ret := (some .int)) (by decide) rfl ?_
  intro p e s m args below meth c s₁ B hml hv
  obtain ⟨rfl, hsz, hv⟩ := hv
  have hx := B.exec
  have hb := B.bytes
  have hr := B.returns
  have hts := atoms_spec (ws := wsX9_request) B.pre
  have hown : s.vm.findClass RX9 = some m.cls := findClass_of_methodNamed B.named
  have hlocks := B.notSynchronized
  subst hsz
  have B := xB_start hs hv
  have hinRX9 : ∀ w ∈ wsX90, w ∈ wsX9_request := by decide +kernel
  have hl := lv_entry ([.ref (ad 65), .int a1, .int a2, .int a3, .int a4]) (n := 8) (Nat.le_of_ble_eq_true rfl)
  rw [lg_entry_eq]
  generalize (lg_sl ([.ref (ad 65), .int a1, .int a2, .int a3, .int a4]) ++ List.replicate (8 - (lg_sl ([.ref (ad 65), .int a1, .int a2, .int a3, .int a4])).length) Slot.unset).toArray = ls at hl ⊢
  have hl : lv_has ls 8 [(0, .ref (ad 65)), (1, .int a1), (2, .int a2), (3, .int a3), (4, .int a4)] := hl
  generalize hAe : xA ad a s.heap.size = A at B ⊢
  have L207 : ∀ (σ : zs) (v3 : Int32) (v6 : Int32) (v7 : Int32) (H : Heap) (locs : List Loc) (ls : Array Slot), f_X9_request_207 σ v3 v6 v7 = some (r, σ') → xB A s G ad σ H locs → lv_has ls 8 [(0, .ref (ad 65)), (3, .int v3), (6, .int v6), (7, .int v7)] → W p l e (headSpec wsX9_request rm_X9_request).room s m ([.ref (ad 65), .int a1, .int a2, .int a3, .int a4] : List Value).toArray below meth c H locs 0 0 (MQ below (va_Qi (fun r' (u : xV) => r' = r ∧ xQ σ' u) (xPost G ad σ' A) A) ([.ref (ad 65), .int a1, .int a2, .int a3, .int a4] : List Value).toArray s 0 0 A) (F0 m 207 ls []) := by
    intro σ v3 v6 v7 H locs ls hf B hl
    unfold f_X9_request_207 at hf
    refine lv_iload_n hx hb dX9_request_207 rfl (lv_at hl 1 rfl) ?_
    refine lv_bipush (v := (8 : Int32)) hx hb dX9_request_208 (by decide) ?_
    refine lv_icmp_ne (tgt := 238) hx hb dX9_request_210 (by decide) (fun hc => ?_) (fun hc => ?_)
    · have hf := zif_f hc hf
      refine lv_iload hx hb dX9_request_238 (lv_at hl 3 rfl) ?_
      refine W.widen (k := 0) (n := 0) (Nat.le_of_ble_eq_true rfl) (Nat.le_of_ble_eq_true rfl) ?_
      exact x_iret hx hb hr rfl hlocks B hf dX9_request_240
    · have hf := zif_t hc hf
      refine lv_aload_n hx hb dX9_request_213 rfl (lv_at hl 0 rfl) ?_
      refine x_getr hx hb hts hinRX9 hown B 65 0 66 (by decide) (by decide) (fun _ => rfl) rfl rfl (by decide) (by decide +kernel) rfl dX9_request_214 ?_
      refine lv_bipush (v := (39 : Int32)) hx hb dX9_request_217 (by decide) ?_
      refine lv_iload hx hb dX9_request_219 (lv_at hl 2 rfl) ?_
      refine lv_iadd hx hb dX9_request_221 ?_
      refine lv_dup2_11 hx hb dX9_request_222 rfl rfl ?_
      obtain ⟨hg, hf⟩ := zg_some hf
      refine x_iald hx hb B 66 (by decide) (fun _ => rfl) (zin_ok hg) dX9_request_223 ?_
      refine lv_iconst (v := (1 : Int32)) hx hb dX9_request_224 (by decide) ?_
      refine lv_iadd hx hb dX9_request_225 ?_
      obtain ⟨hg, hf⟩ := zg_some hf
      refine x_iast hx hb B 66 (by decide) (by decide) (fun _ => rfl) (zin_ok hg) dX9_request_226 (fun H locs B => ?_)
      refine lv_aload_n hx hb dX9_request_227 rfl (lv_at hl 0 rfl) ?_
      refine x_getr hx hb hts hinRX9 hown B 65 0 66 (by decide) (by decide) (fun _ => rfl) rfl rfl (by decide) (by decide +kernel) rfl dX9_request_228 ?_
      refine lv_bipush (v := (39 : Int32)) hx hb dX9_request_231 (by decide) ?_
      refine lv_iload hx hb dX9_request_233 (lv_at hl 2 rfl) ?_
      refine lv_iadd hx hb dX9_request_235 ?_
      obtain ⟨hg, hf⟩ := zg_some hf
      refine x_iald hx hb B 66 (by decide) (fun _ => rfl) (zin_ok hg) dX9_request_236 ?_
      refine W.widen (k := 0) (n := 0) (Nat.le_of_ble_eq_true rfl) (Nat.le_of_ble_eq_true rfl) ?_
      exact x_iret hx hb hr rfl hlocks B hf dX9_request_237
  have L132 : ∀ (n : Nat) (σ : zs) (v2 : Int32) (v3 : Int32) (v4 : Int32) (v6 : Int32) (H : Heap) (locs : List Loc) (ls : Array Slot), zlp4 (f_X9_request_132) n σ v2 v3 v4 v6 = some (r, σ') → xB A s G ad σ H locs → lv_has ls 8 [(0, .ref (ad 65)), (2, .int v2), (3, .int v3), (4, .int v4), (6, .int v6)] → W p l e (headSpec wsX9_request rm_X9_request).room s m ([.ref (ad 65), .int a1, .int a2, .int a3, .int a4] : List Value).toArray below meth c H locs 0 0 (MQ below (va_Qi (fun r' (u : xV) => r' = r ∧ xQ σ' u) (xPost G ad σ' A) A) ([.ref (ad 65), .int a1, .int a2, .int a3, .int a4] : List Value).toArray s 0 0 A) (F0 m 132 ls []) := by
    intro n
    induction n with
    | zero =>
      intro σ v2 v3 v4 v6 H locs ls hf
      cases hf
    | succ n ih =>
      intro σ v2 v3 v4 v6 H locs ls hf B hl
      have hf : f_X9_request_132 (zlp4 (f_X9_request_132) n) σ v2 v3 v4 v6 = some (r, σ') := hf
      unfold f_X9_request_132 at hf
      refine lv_iload hx hb dX9_request_132 (lv_at hl 4 rfl) ?_
      refine lv_if_lt (tgt := 167) hx hb dX9_request_134 (by decide) (fun hc => ?_) (fun hc => ?_)
      · have hf := zif_t hc hf
        refine lv_aload_n hx hb dX9_request_167 rfl (lv_at hl 0 rfl) ?_
        refine x_getr hx hb hts hinRX9 hown B 65 0 66 (by decide) (by decide) (fun _ => rfl) rfl rfl (by decide) (by decide +kernel) rfl dX9_request_168 ?_
        refine lv_bipush (v := (51 : Int32)) hx hb dX9_request_171 (by decide) ?_
        refine lv_iload_n hx hb dX9_request_173 rfl (lv_at hl 1 rfl) ?_
        refine lv_iadd hx hb dX9_request_174 ?_
        obtain ⟨hg, hf⟩ := zg_some hf
        refine x_iald hx hb B 66 (by decide) (fun _ => rfl) (zin_ok hg) dX9_request_175 ?_
        refine lv_istore (lv' := [(6, .int (σ 66 ((51 : Int32) + v2).toNatClampNeg)), (0, .ref (ad 65)), (2, .int v2), (3, .int v3), (4, .int v4)]) hx hb dX9_request_176 hl (by decide) rfl (fun ls hl => ?_)
        refine lv_aload_n hx hb dX9_request_178 rfl (lv_at hl 1 rfl) ?_
        refine x_getr hx hb hts hinRX9 hown B 65 0 66 (by decide) (by decide) (fun _ => rfl) rfl rfl (by decide) (by decide +kernel) rfl dX9_request_179 ?_
        refine lv_bipush (v := (27 : Int32)) hx hb dX9_request_182 (by decide) ?_
        refine lv_iload hx hb dX9_request_184 (lv_at hl 0 rfl) ?_
        refine lv_iadd hx hb dX9_request_186 ?_
        obtain ⟨hg, hf⟩ := zg_some hf
        refine x_iald hx hb B 66 (by decide) (fun _ => rfl) (zin_ok hg) dX9_request_187 ?_
        refine lv_istore (lv' := [(7, .int (σ 66 ((27 : Int32) + (σ 66 ((51 : Int32) + v2).toNatClampNeg)).toNatClampNeg)), (6, .int (σ 66 ((51 : Int32) + v2).toNatClampNeg)), (0, .ref (ad 65)), (2, .int v2), (3, .int v3), (4, .int v4)]) hx hb dX9_request_188 hl (by decide) rfl (fun ls hl => ?_)
        refine lv_iload_n hx hb dX9_request_190 rfl (lv_at hl 4 rfl) ?_
        refine lv_iconst (v := (2 : Int32)) hx hb dX9_request_191 (by decide) ?_
        refine lv_icmp_ne (tgt := 207) hx hb dX9_request_192 (by decide) (fun hc => ?_) (fun hc => ?_)
        · have hf := zif_f hc hf
          exact L207  _ _ _ _ _ _ _ hf B (lv_sub hl [2, 4, 1, 0] rfl)
        · have hf := zif_t hc hf
          refine lv_aload_n hx hb dX9_request_195 rfl (lv_at hl 2 rfl) ?_
          refine x_getr hx hb hts hinRX9 hown B 65 0 66 (by decide) (by decide) (fun _ => rfl) rfl rfl (by decide) (by decide +kernel) rfl dX9_request_196 ?_
          refine lv_bipush (v := (27 : Int32)) hx hb dX9_request_199 (by decide) ?_
          refine lv_iload hx hb dX9_request_201 (lv_at hl 1 rfl) ?_
          refine lv_iadd hx hb dX9_request_203 ?_
          refine lv_iload hx hb dX9_request_204 (lv_at hl 5 rfl) ?_
          obtain ⟨hg, hf⟩ := zg_some hf
          refine x_iast hx hb B 66 (by decide) (by decide) (fun _ => rfl) (zin_ok hg) dX9_request_206 (fun H locs B => ?_)
          exact L207  _ _ _ _ _ _ _ hf B (lv_sub hl [2, 4, 1, 0] rfl)
      · have hf := zif_f hc hf
        refine lv_aload_n hx hb dX9_request_137 rfl (lv_at hl 0 rfl) ?_
        refine x_getr hx hb hts hinRX9 hown B 65 0 66 (by decide) (by decide) (fun _ => rfl) rfl rfl (by decide) (by decide +kernel) rfl dX9_request_138 ?_
        refine lv_sipush (v := (163 : Int32)) hx hb dX9_request_141 (by decide) ?_
        refine lv_iload hx hb dX9_request_144 (lv_at hl 4 rfl) ?_
        refine lv_iadd hx hb dX9_request_146 ?_
        refine lv_dup2_11 hx hb dX9_request_147 rfl rfl ?_
        obtain ⟨hg, hf⟩ := zg_some hf
        refine x_iald hx hb B 66 (by decide) (fun _ => rfl) (zin_ok hg) dX9_request_148 ?_
        refine lv_iconst (v := (1 : Int32)) hx hb dX9_request_149 (by decide) ?_
        refine lv_iadd hx hb dX9_request_150 ?_
        obtain ⟨hg, hf⟩ := zg_some hf
        refine x_iast hx hb B 66 (by decide) (by decide) (fun _ => rfl) (zin_ok hg) dX9_request_151 (fun H locs B => ?_)
        refine lv_aload_n hx hb dX9_request_152 rfl (lv_at hl 0 rfl) ?_
        refine x_getr hx hb hts hinRX9 hown B 65 0 66 (by decide) (by decide) (fun _ => rfl) rfl rfl (by decide) (by decide +kernel) rfl dX9_request_153 ?_
        refine lv_bipush (v := (79 : Int32)) hx hb dX9_request_156 (by decide) ?_
        refine lv_iload hx hb dX9_request_158 (lv_at hl 4 rfl) ?_
        refine lv_iadd hx hb dX9_request_160 ?_
        obtain ⟨hg, hf⟩ := zg_some hf
        refine x_iald hx hb B 66 (by decide) (fun _ => rfl) (zin_ok hg) dX9_request_161 ?_
        refine lv_istore (lv' := [(6, .int ((zp σ 66 ((163 : Int32) + v6).toNatClampNeg ((σ 66 ((163 : Int32) + v6).toNatClampNeg) + (1 : Int32))) 66 ((79 : Int32) + v6).toNatClampNeg)), (0, .ref (ad 65)), (2, .int v2), (3, .int v3), (4, .int v4)]) hx hb dX9_request_162 hl (by decide) rfl (fun ls hl => ?_)
        refine lv_goto (tgt := 132) hx hb dX9_request_164 (by decide) ?_
        exact ih _ _ _ _ _ _ _ _ hf B (lv_sub hl [1, 2, 3, 4, 0] rfl)
  have L119 : ∀ (σ : zs) (v2 : Int32) (v3 : Int32) (v4 : Int32) (v5 : Int32) (s0 : Int32) (H : Heap) (locs : List Loc) (ls : Array Slot), f_X9_request_119 σ v2 v3 v4 v5 s0 = some (r, σ') → xB A s G ad σ H locs → lv_has ls 8 [(0, .ref (ad 65)), (2, .int v2), (3, .int v3), (4, .int v4), (5, .int v5)] → W p l e (headSpec wsX9_request rm_X9_request).room s m ([.ref (ad 65), .int a1, .int a2, .int a3, .int a4] : List Value).toArray below meth c H locs 0 0 (MQ below (va_Qi (fun r' (u : xV) => r' = r ∧ xQ σ' u) (xPost G ad σ' A) A) ([.ref (ad 65), .int a1, .int a2, .int a3, .int a4] : List Value).toArray s 0 0 A) (F0 m 119 ls [.int s0, .ref (ad 65)]) := by
    intro σ v2 v3 v4 v5 s0 H locs ls hf B hl
    unfold f_X9_request_119 at hf
    refine x_puti hx hb hts hinRX9 hown tyX9 tyX9_ok nmX9 B 65 3 (by decide) (by decide) (fun _ => rfl) rfl rfl (by decide) (by decide +kernel) rfl rfl rfl rfl dX9_request_119 (fun H locs B => ?_)
    refine lv_iload hx hb dX9_request_122 (lv_at hl 4 rfl) ?_
    refine lv_if_ne (tgt := 129) hx hb dX9_request_124 (by decide) (fun hc => ?_) (fun hc => ?_)
    · have hf := zif_f hc hf
      refine lv_iload_n hx hb dX9_request_129 rfl (lv_at hl 1 rfl) ?_
      refine lv_istore (lv' := [(6, .int v2), (0, .ref (ad 65)), (2, .int v2), (3, .int v3), (4, .int v4), (5, .int v5)]) hx hb dX9_request_130 hl (by decide) rfl (fun ls hl => ?_)
      exact L132  _ _ _ _ _ _ _ _ _ hf B (lv_sub hl [1, 2, 3, 4, 0] rfl)
    · have hf := zif_t hc hf
      refine lv_iconst (v := (0 : Int32)) hx hb dX9_request_127 (by decide) ?_
      refine W.widen (k := 0) (n := 0) (Nat.le_of_ble_eq_true rfl) (Nat.le_of_ble_eq_true rfl) ?_
      exact x_iret hx hb hr rfl hlocks B hf dX9_request_128
  have L103 : ∀ (σ : zs) (v2 : Int32) (v3 : Int32) (v4 : Int32) (v5 : Int32) (s0 : Int32) (H : Heap) (locs : List Loc) (ls : Array Slot), f_X9_request_103 σ v2 v3 v4 v5 s0 = some (r, σ') → xB A s G ad σ H locs → lv_has ls 8 [(0, .ref (ad 65)), (2, .int v2), (3, .int v3), (4, .int v4), (5, .int v5)] → W p l e (headSpec wsX9_request rm_X9_request).room s m ([.ref (ad 65), .int a1, .int a2, .int a3, .int a4] : List Value).toArray below meth c H locs 0 0 (MQ below (va_Qi (fun r' (u : xV) => r' = r ∧ xQ σ' u) (xPost G ad σ' A) A) ([.ref (ad 65), .int a1, .int a2, .int a3, .int a4] : List Value).toArray s 0 0 A) (F0 m 103 ls [.int s0, .ref (ad 66)]) := by
    intro σ v2 v3 v4 v5 s0 H locs ls hf B hl
    unfold f_X9_request_103 at hf
    refine lv_dup2_11 hx hb dX9_request_103 rfl rfl ?_
    obtain ⟨hg, hf⟩ := zg_some hf
    refine x_iald hx hb B 66 (by decide) (fun _ => rfl) (zin_ok hg) dX9_request_104 ?_
    refine lv_iconst (v := (1 : Int32)) hx hb dX9_request_105 (by decide) ?_
    refine lv_iadd hx hb dX9_request_106 ?_
    obtain ⟨hg, hf⟩ := zg_some hf
    refine x_iast hx hb B 66 (by decide) (by decide) (fun _ => rfl) (zin_ok hg) dX9_request_107 (fun H locs B => ?_)
    refine lv_aload_n hx hb dX9_request_108 rfl (lv_at hl 0 rfl) ?_
    refine lv_iload hx hb dX9_request_109 (lv_at hl 4 rfl) ?_
    refine lv_if_eq (tgt := 118) hx hb dX9_request_111 (by decide) (fun hc => ?_) (fun hc => ?_)
    · have hf := zif_t hc hf
      refine lv_iconst (v := (3 : Int32)) hx hb dX9_request_118 (by decide) ?_
      exact L119  _ _ _ _ _ _ _ _ _ hf B (lv_sub hl [0, 1, 2, 3, 4] rfl)
    · have hf := zif_f hc hf
      refine lv_iconst (v := (0 : Int32)) hx hb dX9_request_114 (by decide) ?_
      refine lv_goto (tgt := 119) hx hb dX9_request_115 (by decide) ?_
      exact L119  _ _ _ _ _ _ _ _ _ hf B (lv_sub hl [0, 1, 2, 3, 4] rfl)
  have L85 : ∀ (σ : zs) (v2 : Int32) (v3 : Int32) (v4 : Int32) (v5 : Int32) (s0 : Int32) (s1 : Int32) (H : Heap) (locs : List Loc) (ls : Array Slot), f_X9_request_85 σ v2 v3 v4 v5 s0 s1 = some (r, σ') → xB A s G ad σ H locs → lv_has ls 8 [(0, .ref (ad 65)), (2, .int v2), (3, .int v3), (4, .int v4), (5, .int v5)] → W p l e (headSpec wsX9_request rm_X9_request).room s m ([.ref (ad 65), .int a1, .int a2, .int a3, .int a4] : List Value).toArray below meth c H locs 0 0 (MQ below (va_Qi (fun r' (u : xV) => r' = r ∧ xQ σ' u) (xPost G ad σ' A) A) ([.ref (ad 65), .int a1, .int a2, .int a3, .int a4] : List Value).toArray s 0 0 A) (F0 m 85 ls [.int s0, .int s1, .ref (ad 65)]) := by
    intro σ v2 v3 v4 v5 s0 s1 H locs ls hf B hl
    unfold f_X9_request_85 at hf
    refine lv_iadd hx hb dX9_request_85 ?_
    obtain ⟨r8, σ9, hu7, hf⟩ := zb_some hf
    refine x_v B (fun nb a g hs Bz => va_runV (As := [.int (s1 + s0)]) (rest := []) ⟨hx, hb, hml, hown, hts⟩ (c_X9_logs l hu7 _ nb a g hs) (cwV 1 hts gX9_request_X9_logs rfl rfl rfl (by decide +kernel) ⟨Nat.le_of_ble_eq_true rfl, Nat.le_of_ble_eq_true rfl⟩) (x_preV Bz (by decide) (fun _ => rfl) rfl) rfl rfl hl.1 rfl (lv_room (Nat.le_of_ble_eq_true rfl)) dX9_request_86 ⟨Nat.le_of_ble_eq_true rfl, Nat.le_of_ble_eq_true rfl⟩) (fun H locs B => ?_)
    refine lv_aload_n hx hb dX9_request_89 rfl (lv_at hl 0 rfl) ?_
    refine x_getr hx hb hts hinRX9 hown B 65 0 66 (by decide) (by decide) (fun _ => rfl) rfl rfl (by decide) (by decide +kernel) rfl dX9_request_90 ?_
    refine lv_iload hx hb dX9_request_93 (lv_at hl 4 rfl) ?_
    refine lv_if_eq (tgt := 102) hx hb dX9_request_95 (by decide) (fun hc => ?_) (fun hc => ?_)
    · have hf := zif_t hc hf
      refine lv_iconst (v := (5 : Int32)) hx hb dX9_request_102 (by decide) ?_
      exact L103  _ _ _ _ _ _ _ _ _ hf B (lv_sub hl [0, 1, 2, 3, 4] rfl)
    · have hf := zif_f hc hf
      refine lv_iconst (v := (4 : Int32)) hx hb dX9_request_98 (by decide) ?_
      refine lv_goto (tgt := 103) hx hb dX9_request_99 (by decide) ?_
      exact L103  _ _ _ _ _ _ _ _ _ hf B (lv_sub hl [0, 1, 2, 3, 4] rfl)
  have L41 : ∀ (σ : zs) (v1 : Int32) (v2 : Int32) (v3 : Int32) (v4 : Int32) (s0 : Int32) (H : Heap) (locs : List Loc) (ls : Array Slot), f_X9_request_41 σ v1 v2 v3 v4 s0 = some (r, σ') → xB A s G ad σ H locs → lv_has ls 8 [(0, .ref (ad 65)), (1, .int v1), (2, .int v2), (3, .int v3), (4, .int v4)] → W p l e (headSpec wsX9_request rm_X9_request).room s m ([.ref (ad 65), .int a1, .int a2, .int a3, .int a4] : List Value).toArray below meth c H locs 0 0 (MQ below (va_Qi (fun r' (u : xV) => r' = r ∧ xQ σ' u) (xPost G ad σ' A) A) ([.ref (ad 65), .int a1, .int a2, .int a3, .int a4] : List Value).toArray s 0 0 A) (F0 m 41 ls [.int s0, .ref (ad 65)]) := by
    intro σ v1 v2 v3 v4 s0 H locs ls hf B hl
    unfold f_X9_request_41 at hf
    refine x_puti hx hb hts hinRX9 hown tyX9 tyX9_ok nmX9 B 65 3 (by decide) (by decide) (fun _ => rfl) rfl rfl (by decide) (by decide +kernel) rfl rfl rfl rfl dX9_request_41 (fun H locs B => ?_)
    refine lv_aload_n hx hb dX9_request_44 rfl (lv_at hl 0 rfl) ?_
    refine x_geti hx hb hts hinRX9 hown B 65 3 (by decide) (fun _ => rfl) rfl rfl (by decide) (by decide +kernel) rfl dX9_request_45 ?_
    refine lv_if_eq (tgt := 53) hx hb dX9_request_48 (by decide) (fun hc => ?_) (fun hc => ?_)
    · have hf := zif_t hc hf
      refine lv_aload_n hx hb dX9_request_53 rfl (lv_at hl 0 rfl) ?_
      refine lv_iload_n hx hb dX9_request_54 rfl (lv_at hl 1 rfl) ?_
      refine lv_iload_n hx hb dX9_request_55 rfl (lv_at hl 2 rfl) ?_
      refine lv_iload_n hx hb dX9_request_56 rfl (lv_at hl 3 rfl) ?_
      refine lv_iload hx hb dX9_request_57 (lv_at hl 4 rfl) ?_
      obtain ⟨r5, σ6, hu4, hf⟩ := zb_some hf
      refine x_i B (fun nb a g hs Bz => va_runV (As := [.int v1, .int v2, .int v3, .int v4]) (rest := []) ⟨hx, hb, hml, hown, hts⟩ (c_X9_allows l hu4 _ nb a g hs) (cwV 4 hts gX9_request_X9_allows rfl rfl rfl (by decide +kernel) ⟨Nat.le_of_ble_eq_true rfl, Nat.le_of_ble_eq_true rfl⟩) (x_preV Bz (by decide) (fun _ => rfl) rfl) rfl rfl hl.1 rfl (lv_room (Nat.le_of_ble_eq_true rfl)) dX9_request_59 ⟨Nat.le_of_ble_eq_true rfl, Nat.le_of_ble_eq_true rfl⟩) (fun H locs B => ?_)
      refine lv_istore (lv' := [(5, .int r5), (0, .ref (ad 65)), (1, .int v1), (2, .int v2), (3, .int v3), (4, .int v4)]) hx hb dX9_request_62 hl (by decide) rfl (fun ls hl => ?_)
      refine lv_aload_n hx hb dX9_request_64 rfl (lv_at hl 1 rfl) ?_
      refine lv_sipush (v := (1000 : Int32)) hx hb dX9_request_65 (by decide) ?_
      refine lv_iload_n hx hb dX9_request_68 rfl (lv_at hl 2 rfl) ?_
      refine lv_imul hx hb dX9_request_69 ?_
      refine lv_bipush (v := (10 : Int32)) hx hb dX9_request_70 (by decide) ?_
      refine lv_iload_n hx hb dX9_request_72 rfl (lv_at hl 3 rfl) ?_
      refine lv_imul hx hb dX9_request_73 ?_
      refine lv_iadd hx hb dX9_request_74 ?_
      refine lv_iload hx hb dX9_request_75 (lv_at hl 0 rfl) ?_
      refine lv_if_eq (tgt := 84) hx hb dX9_request_77 (by decide) (fun hc => ?_) (fun hc => ?_)
      · have hf := zif_t hc hf
        refine lv_iconst (v := (0 : Int32)) hx hb dX9_request_84 (by decide) ?_
        exact L85  _ _ _ _ _ _ _ _ _ _ hf B (lv_sub hl [1, 3, 4, 5, 0] rfl)
      · have hf := zif_f hc hf
        refine lv_iconst (v := (1 : Int32)) hx hb dX9_request_80 (by decide) ?_
        refine lv_goto (tgt := 85) hx hb dX9_request_81 (by decide) ?_
        exact L85  _ _ _ _ _ _ _ _ _ _ hf B (lv_sub hl [1, 3, 4, 5, 0] rfl)
    · have hf := zif_f hc hf
      refine lv_iconst (v := (0 : Int32)) hx hb dX9_request_51 (by decide) ?_
      refine W.widen (k := 0) (n := 0) (Nat.le_of_ble_eq_true rfl) (Nat.le_of_ble_eq_true rfl) ?_
      exact x_iret hx hb hr rfl hlocks B hf dX9_request_52
  unfold f_X9_request at hf
  refine lv_aload_n hx hb dX9_request_0 rfl (lv_at hl 0 rfl) ?_
  refine lv_iload_n hx hb dX9_request_1 rfl (lv_at hl 1 rfl) ?_
  obtain ⟨r2, σ3, hu1, hf⟩ := zb_some hf
  refine x_i B (fun nb a g hs Bz => va_runS (As := [.int a1]) (rest := [.ref (ad 65)]) ⟨hx, hb, hml, hown, hts⟩ (c_X9_isSubject l hu1 _ nb a g hs) (va_cwS 1 hts gX9_request_X9_isSubject rfl rfl rfl (by decide +kernel) ⟨Nat.le_of_ble_eq_true rfl, Nat.le_of_ble_eq_true rfl⟩) (z_preS Bz) rfl rfl hl.1 rfl (lv_room (Nat.le_of_ble_eq_true rfl)) dX9_request_2 ⟨Nat.le_of_ble_eq_true rfl, Nat.le_of_ble_eq_true rfl⟩) (fun H locs B => ?_)
  refine lv_if_eq (tgt := 16) hx hb dX9_request_5 (by decide) (fun hc => ?_) (fun hc => ?_)
  · have hf := zif_t hc hf
    refine lv_iconst (v := (1 : Int32)) hx hb dX9_request_16 (by decide) ?_
    refine lv_goto (tgt := 41) hx hb dX9_request_17 (by decide) ?_
    exact L41  _ _ _ _ _ _ _ _ _ hf B (lv_sub hl [0, 1, 2, 3, 4] rfl)
  · have hf := zif_f hc hf
    refine lv_aload_n hx hb dX9_request_8 rfl (lv_at hl 0 rfl) ?_
    refine lv_iload_n hx hb dX9_request_9 rfl (lv_at hl 2 rfl) ?_
    obtain ⟨r11, σ12, hu10, hf⟩ := zb_some hf
    refine x_i B (fun nb a g hs Bz => va_runV (As := [.int a2]) (rest := [.ref (ad 65)]) ⟨hx, hb, hml, hown, hts⟩ (c_X9_isToken l hu10 _ nb a g hs) (cwV 1 hts gX9_request_X9_isToken rfl rfl rfl (by decide +kernel) ⟨Nat.le_of_ble_eq_true rfl, Nat.le_of_ble_eq_true rfl⟩) (x_preV Bz (by decide) (fun _ => rfl) rfl) rfl rfl hl.1 rfl (lv_room (Nat.le_of_ble_eq_true rfl)) dX9_request_10 ⟨Nat.le_of_ble_eq_true rfl, Nat.le_of_ble_eq_true rfl⟩) (fun H locs B => ?_)
    refine lv_if_ne (tgt := 20) hx hb dX9_request_13 (by decide) (fun hc => ?_) (fun hc => ?_)
    · have hf := zif_f hc hf
      refine lv_iload_n hx hb dX9_request_20 rfl (lv_at hl 3 rfl) ?_
      refine lv_iconst (v := (1 : Int32)) hx hb dX9_request_21 (by decide) ?_
      refine lv_icmp_eq (tgt := 36) hx hb dX9_request_22 (by decide) (fun hc => ?_) (fun hc => ?_)
      · have hf := zif_t hc hf
        refine lv_iconst (v := (0 : Int32)) hx hb dX9_request_36 (by decide) ?_
        refine lv_goto (tgt := 41) hx hb dX9_request_37 (by decide) ?_
        exact L41  _ _ _ _ _ _ _ _ _ hf B (lv_sub hl [0, 1, 2, 3, 4] rfl)
      · have hf := zif_f hc hf
        refine lv_iload_n hx hb dX9_request_25 rfl (lv_at hl 3 rfl) ?_
        refine lv_iconst (v := (2 : Int32)) hx hb dX9_request_26 (by decide) ?_
        refine lv_icmp_eq (tgt := 36) hx hb dX9_request_27 (by decide) (fun hc => ?_) (fun hc => ?_)
        · have hf := zif_t hc hf
          refine lv_iconst (v := (0 : Int32)) hx hb dX9_request_36 (by decide) ?_
          refine lv_goto (tgt := 41) hx hb dX9_request_37 (by decide) ?_
          exact L41  _ _ _ _ _ _ _ _ _ hf B (lv_sub hl [0, 1, 2, 3, 4] rfl)
        · have hf := zif_f hc hf
          refine lv_iload_n hx hb dX9_request_30 rfl (lv_at hl 3 rfl) ?_
          refine lv_bipush (v := (8 : Int32)) hx hb dX9_request_31 (by decide) ?_
          refine lv_icmp_ne (tgt := 40) hx hb dX9_request_33 (by decide) (fun hc => ?_) (fun hc => ?_)
          · have hf := zif_f hc hf
            refine lv_iconst (v := (2 : Int32)) hx hb dX9_request_40 (by decide) ?_
            exact L41  _ _ _ _ _ _ _ _ _ hf B (lv_sub hl [0, 1, 2, 3, 4] rfl)
          · have hf := zif_t hc hf
            refine lv_iconst (v := (0 : Int32)) hx hb dX9_request_36 (by decide) ?_
            refine lv_goto (tgt := 41) hx hb dX9_request_37 (by decide) ?_
            exact L41  _ _ _ _ _ _ _ _ _ hf B (lv_sub hl [0, 1, 2, 3, 4] rfl)
    · have hf := zif_t hc hf
      refine lv_iconst (v := (1 : Int32)) hx hb dX9_request_16 (by decide) ?_
      refine lv_goto (tgt := 41) hx hb dX9_request_17 (by decide) ?_
      exact L41  _ _ _ _ _ _ _ _ _ hf B (lv_sub hl [0, 1, 2, 3, 4] rfl)
theorem dX9_object_0 : decode cX9_object 0 = .ok (.aload_n 0, 1) := by decide +kernel
theorem dX9_object_1 : decode cX9_object 1 = .ok (.iload_n 1, 1) := by decide +kernel
theorem dX9_object_2 : decode cX9_object 2 = .ok (.invokestatic 82, 3) := by decide +kernel
theorem dX9_object_5 : decode cX9_object 5 = .ok (.ifCond .ne 7, 3) := by decide +kernel
theorem dX9_object_8 : decode cX9_object 8 = .ok (.iconst 1, 1) := by decide +kernel
theorem dX9_object_9 : decode cX9_object 9 = .ok (.goto 17, 3) := by decide +kernel
theorem dX9_object_12 : decode cX9_object 12 = .ok (.iload_n 2, 1) := by decide +kernel
theorem dX9_object_13 : decode cX9_object 13 = .ok (.iconst 0, 1) := by decide +kernel
theorem dX9_object_14 : decode cX9_object 14 = .ok (.iconst 2, 1) := by decide +kernel
theorem dX9_object_15 : decode cX9_object 15 = .ok (.invokestatic 44, 3) := by decide +kernel
theorem dX9_object_18 : decode cX9_object 18 = .ok (.ifCond .eq 7, 3) := by decide +kernel
theorem dX9_object_21 : decode cX9_object 21 = .ok (.iconst 0, 1) := by decide +kernel
theorem dX9_object_22 : decode cX9_object 22 = .ok (.goto 4, 3) := by decide +kernel
theorem dX9_object_25 : decode cX9_object 25 = .ok (.iconst 2, 1) := by decide +kernel
theorem dX9_object_26 : decode cX9_object 26 = .ok (.putfield 41, 3) := by decide +kernel
theorem dX9_object_29 : decode cX9_object 29 = .ok (.aload_n 0, 1) := by decide +kernel
theorem dX9_object_30 : decode cX9_object 30 = .ok (.getfield 41, 3) := by decide +kernel
theorem dX9_object_33 : decode cX9_object 33 = .ok (.ifCond .eq 5, 3) := by decide +kernel
theorem dX9_object_36 : decode cX9_object 36 = .ok (.iconst 0, 1) := by decide +kernel
theorem dX9_object_37 : decode cX9_object 37 = .ok (.ireturn, 1) := by decide +kernel
theorem dX9_object_38 : decode cX9_object 38 = .ok (.iconst 0, 1) := by decide +kernel
theorem dX9_object_39 : decode cX9_object 39 = .ok (.istore_n 3, 1) := by decide +kernel
theorem dX9_object_40 : decode cX9_object 40 = .ok (.iconst 0, 1) := by decide +kernel
theorem dX9_object_41 : decode cX9_object 41 = .ok (.istore 4, 2) := by decide +kernel
theorem dX9_object_43 : decode cX9_object 43 = .ok (.iload 4, 2) := by decide +kernel
theorem dX9_object_45 : decode cX9_object 45 = .ok (.aload_n 0, 1) := by decide +kernel
theorem dX9_object_46 : decode cX9_object 46 = .ok (.getfield 9, 3) := by decide +kernel
theorem dX9_object_49 : decode cX9_object 49 = .ok (.iconst 1, 1) := by decide +kernel
theorem dX9_object_50 : decode cX9_object 50 = .ok (.iaload, 1) := by decide +kernel
theorem dX9_object_51 : decode cX9_object 51 = .ok (.if_icmp .ge 31, 3) := by decide +kernel
theorem dX9_object_54 : decode cX9_object 54 = .ok (.iload_n 3, 1) := by decide +kernel
theorem dX9_object_55 : decode cX9_object 55 = .ok (.aload_n 0, 1) := by decide +kernel
theorem dX9_object_56 : decode cX9_object 56 = .ok (.getfield 9, 3) := by decide +kernel
theorem dX9_object_59 : decode cX9_object 59 = .ok (.bipush 51, 2) := by decide +kernel
theorem dX9_object_61 : decode cX9_object 61 = .ok (.iload 4, 2) := by decide +kernel
theorem dX9_object_63 : decode cX9_object 63 = .ok (.iadd, 1) := by decide +kernel
theorem dX9_object_64 : decode cX9_object 64 = .ok (.iaload, 1) := by decide +kernel
theorem dX9_object_65 : decode cX9_object 65 = .ok (.iload_n 1, 1) := by decide +kernel
theorem dX9_object_66 : decode cX9_object 66 = .ok (.if_icmp .ne 7, 3) := by decide +kernel
theorem dX9_object_69 : decode cX9_object 69 = .ok (.iconst 1, 1) := by decide +kernel
theorem dX9_object_70 : decode cX9_object 70 = .ok (.goto 4, 3) := by decide +kernel
theorem dX9_object_73 : decode cX9_object 73 = .ok (.iconst 0, 1) := by decide +kernel
theorem dX9_object_74 : decode cX9_object 74 = .ok (.iadd, 1) := by decide +kernel
theorem dX9_object_75 : decode cX9_object 75 = .ok (.istore_n 3, 1) := by decide +kernel
theorem dX9_object_76 : decode cX9_object 76 = .ok (.iinc 4 1, 3) := by decide +kernel
theorem dX9_object_79 : decode cX9_object 79 = .ok (.goto (-36), 3) := by decide +kernel
theorem dX9_object_82 : decode cX9_object 82 = .ok (.iload_n 2, 1) := by decide +kernel
theorem dX9_object_83 : decode cX9_object 83 = .ok (.ifCond .ne 15, 3) := by decide +kernel
theorem dX9_object_86 : decode cX9_object 86 = .ok (.aload_n 0, 1) := by decide +kernel
theorem dX9_object_87 : decode cX9_object 87 = .ok (.getfield 9, 3) := by decide +kernel
theorem dX9_object_90 : decode cX9_object 90 = .ok (.bipush 27, 2) := by decide +kernel
theorem dX9_object_92 : decode cX9_object 92 = .ok (.iload_n 1, 1) := by decide +kernel
theorem dX9_object_93 : decode cX9_object 93 = .ok (.iadd, 1) := by decide +kernel
theorem dX9_object_94 : decode cX9_object 94 = .ok (.iaload, 1) := by decide +kernel
theorem dX9_object_95 : decode cX9_object 95 = .ok (.goto 21, 3) := by decide +kernel
theorem dX9_object_98 : decode cX9_object 98 = .ok (.iload_n 2, 1) := by decide +kernel
theorem dX9_object_99 : decode cX9_object 99 = .ok (.iconst 1, 1) := by decide +kernel
theorem dX9_object_100 : decode cX9_object 100 = .ok (.if_icmp .ne 15, 3) := by decide +kernel
theorem dX9_object_103 : decode cX9_object 103 = .ok (.aload_n 0, 1) := by decide +kernel
theorem dX9_object_104 : decode cX9_object 104 = .ok (.getfield 9, 3) := by decide +kernel
theorem dX9_object_107 : decode cX9_object 107 = .ok (.bipush 39, 2) := by decide +kernel
theorem dX9_object_109 : decode cX9_object 109 = .ok (.iload_n 1, 1) := by decide +kernel
theorem dX9_object_110 : decode cX9_object 110 = .ok (.iadd, 1) := by decide +kernel
theorem dX9_object_111 : decode cX9_object 111 = .ok (.iaload, 1) := by decide +kernel
theorem dX9_object_112 : decode cX9_object 112 = .ok (.goto 4, 3) := by decide +kernel
theorem dX9_object_115 : decode cX9_object 115 = .ok (.iload_n 3, 1) := by decide +kernel
theorem dX9_object_116 : decode cX9_object 116 = .ok (.ireturn, 1) := by decide +kernel
set_option maxRecDepth 20000 in
theorem ggX9_object_X9_isObject : GoodIn wsX9_object wsX9_isObject := goodIn_r _ [6, 7, 8, 5, 9] (by decide +kernel) (by decide +kernel)
set_option maxRecDepth 20000 in
theorem gX9_object_X9_isObject : GoodIn wsX9_object (va_wsS RX9 82 yX9_isObject wsX9_isObject) := goodIn_app (goodIn_of _ (by decide +kernel)) ggX9_object_X9_isObject
set_option maxRecDepth 20000 in
theorem ggX9_object_X9_isIn : GoodIn wsX9_object wsX9_isIn := goodIn_r _ [9] (by decide +kernel) (by decide +kernel)
set_option maxRecDepth 20000 in
theorem gX9_object_X9_isIn : GoodIn wsX9_object (va_wsS RX9 44 yX9_isIn wsX9_isIn) := goodIn_app (goodIn_of _ (by decide +kernel)) ggX9_object_X9_isIn
def rm_X9_object : Room := { frames := 3, cells := 0, slots := 0, locals := 58 }
set_option maxHeartbeats 4000000 in
set_option maxRecDepth 100000 in
theorem c_X9_object (l : Launch) {G : zG} {ad : Nat → Nat} {σ σ' : zs} {a1 a2 : Int32} {r : Int32} (hf : f_X9_object σ a1 a2 = some (r, σ')) : xMi l yX9_object wsX9_object rm_X9_object G ad σ [.ref (ad 65), .int a1, .int a2] r σ' := by
  intro sz nb a g hs
  refine Met.ofW (cc := cX9_object) (maxL := 5) (ret := (some .int)) (by decide) rfl ?_
  intro p e s m args below meth c s₁ B hml hv
  obtain ⟨rfl, hsz, hv⟩ := hv
  have hx := B.exec
  have hb := B.bytes
  have hr := B.returns
  have hts := atoms_spec (ws := wsX9_object) B.pre
  have hown : s.vm.findClass RX9 = some m.cls := findClass_of_methodNamed B.named
  have hlocks := B.notSynchronized
  subst hsz
  have B := xB_start hs hv
  have hinRX9 : ∀ w ∈ wsX90, w ∈ wsX9_object := by decide +kernel
  have hl := lv_entry ([.ref (ad 65), .int a1, .int a2]) (n := 5) (Nat.le_of_ble_eq_true rfl)
  rw [lg_entry_eq]
  generalize (lg_sl ([.ref (ad 65), .int a1, .int a2]) ++ List.replicate (5 - (lg_sl ([.ref (ad 65), .int a1, .int a2])).length) Slot.unset).toArray = ls at hl ⊢
  have hl : lv_has ls 5 [(0, .ref (ad 65)), (1, .int a1), (2, .int a2)] := hl
  generalize hAe : xA ad a s.heap.size = A at B ⊢
  have L74 : ∀ (K43 : zs → Int32 → Int32 → Int32 → Int32 → Option (Int32 × zs)) (hK43 : ∀ (σ : zs) (v1 : Int32) (v2 : Int32) (v3 : Int32) (v4 : Int32) (H : Heap) (locs : List Loc) (ls : Array Slot), K43 σ v1 v2 v3 v4 = some (r, σ') → xB A s G ad σ H locs → lv_has ls 5 [(0, .ref (ad 65)), (1, .int v1), (2, .int v2), (3, .int v3), (4, .int v4)] → W p l e (headSpec wsX9_object rm_X9_object).room s m ([.ref (ad 65), .int a1, .int a2] : List Value).toArray below meth c H locs 0 0 (MQ below (va_Qi (fun r' (u : xV) => r' = r ∧ xQ σ' u) (xPost G ad σ' A) A) ([.ref (ad 65), .int a1, .int a2] : List Value).toArray s 0 0 A) (F0 m 43 ls [])) (σ : zs) (v1 : Int32) (v2 : Int32) (v4 : Int32) (s0 : Int32) (s1 : Int32) (H : Heap) (locs : List Loc) (ls : Array Slot), f_X9_object_74 K43 σ v1 v2 v4 s0 s1 = some (r, σ') → xB A s G ad σ H locs → lv_has ls 5 [(0, .ref (ad 65)), (1, .int v1), (2, .int v2), (4, .int v4)] → W p l e (headSpec wsX9_object rm_X9_object).room s m ([.ref (ad 65), .int a1, .int a2] : List Value).toArray below meth c H locs 0 0 (MQ below (va_Qi (fun r' (u : xV) => r' = r ∧ xQ σ' u) (xPost G ad σ' A) A) ([.ref (ad 65), .int a1, .int a2] : List Value).toArray s 0 0 A) (F0 m 74 ls [.int s0, .int s1]) := by
    intro K43 hK43 σ v1 v2 v4 s0 s1 H locs ls hf B hl
    unfold f_X9_object_74 at hf
    refine lv_iadd hx hb dX9_object_74 ?_
    refine lv_istore_n (lv' := [(3, .int (s1 + s0)), (0, .ref (ad 65)), (1, .int v1), (2, .int v2), (4, .int v4)]) hx hb dX9_object_75 rfl hl (by decide) rfl (fun ls hl => ?_)
    refine lv_iinc (v := (v4 + (1 : Int32))) (lv' := [(4, .int (v4 + (1 : Int32))), (3, .int (s1 + s0)), (0, .ref (ad 65)), (1, .int v1), (2, .int v2)]) hx hb dX9_object_76 hl (k := 4) rfl (zc1 (by decide)) (by decide) rfl (fun ls hl => ?_)
    refine lv_goto (tgt := 43) hx hb dX9_object_79 (by decide) ?_
    exact hK43 _ _ _ _ _ _ _ _ hf B (lv_sub hl [2, 3, 4, 1, 0] rfl)
  have L43 : ∀ (n : Nat) (σ : zs) (v1 : Int32) (v2 : Int32) (v3 : Int32) (v4 : Int32) (H : Heap) (locs : List Loc) (ls : Array Slot), zlp4 (f_X9_object_43) n σ v1 v2 v3 v4 = some (r, σ') → xB A s G ad σ H locs → lv_has ls 5 [(0, .ref (ad 65)), (1, .int v1), (2, .int v2), (3, .int v3), (4, .int v4)] → W p l e (headSpec wsX9_object rm_X9_object).room s m ([.ref (ad 65), .int a1, .int a2] : List Value).toArray below meth c H locs 0 0 (MQ below (va_Qi (fun r' (u : xV) => r' = r ∧ xQ σ' u) (xPost G ad σ' A) A) ([.ref (ad 65), .int a1, .int a2] : List Value).toArray s 0 0 A) (F0 m 43 ls []) := by
    intro n
    induction n with
    | zero =>
      intro σ v1 v2 v3 v4 H locs ls hf
      cases hf
    | succ n ih =>
      intro σ v1 v2 v3 v4 H locs ls hf B hl
      have hf : f_X9_object_43 (zlp4 (f_X9_object_43) n) σ v1 v2 v3 v4 = some (r, σ') := hf
      unfold f_X9_object_43 at hf
      refine lv_iload hx hb dX9_object_43 (lv_at hl 4 rfl) ?_
      refine lv_aload_n hx hb dX9_object_45 rfl (lv_at hl 0 rfl) ?_
      refine x_getr hx hb hts hinRX9 hown B 65 0 66 (by decide) (by decide) (fun _ => rfl) rfl rfl (by decide) (by decide +kernel) rfl dX9_object_46 ?_
      refine lv_iconst (v := (1 : Int32)) hx hb dX9_object_49 (by decide) ?_
      obtain ⟨hg, hf⟩ := zg_some hf
      refine x_iald hx hb B 66 (by decide) (fun _ => rfl) (zin_ok hg) dX9_object_50 ?_
      refine lv_icmp_ge (tgt := 82) hx hb dX9_object_51 (by decide) (fun hc => ?_) (fun hc => ?_)
      · have hf := zif_t hc hf
        refine lv_iload_n hx hb dX9_object_82 rfl (lv_at hl 2 rfl) ?_
        refine lv_if_ne (tgt := 98) hx hb dX9_object_83 (by decide) (fun hc => ?_) (fun hc => ?_)
        · have hf := zif_f hc hf
          refine lv_iload_n hx hb dX9_object_98 rfl (lv_at hl 2 rfl) ?_
          refine lv_iconst (v := (1 : Int32)) hx hb dX9_object_99 (by decide) ?_
          refine lv_icmp_ne (tgt := 115) hx hb dX9_object_100 (by decide) (fun hc => ?_) (fun hc => ?_)
          · have hf := zif_f hc hf
            refine lv_iload_n hx hb dX9_object_115 rfl (lv_at hl 3 rfl) ?_
            refine W.widen (k := 0) (n := 0) (Nat.le_of_ble_eq_true rfl) (Nat.le_of_ble_eq_true rfl) ?_
            exact x_iret hx hb hr rfl hlocks B hf dX9_object_116
          · have hf := zif_t hc hf
            refine lv_aload_n hx hb dX9_object_103 rfl (lv_at hl 0 rfl) ?_
            refine x_getr hx hb hts hinRX9 hown B 65 0 66 (by decide) (by decide) (fun _ => rfl) rfl rfl (by decide) (by decide +kernel) rfl dX9_object_104 ?_
            refine lv_bipush (v := (39 : Int32)) hx hb dX9_object_107 (by decide) ?_
            refine lv_iload_n hx hb dX9_object_109 rfl (lv_at hl 1 rfl) ?_
            refine lv_iadd hx hb dX9_object_110 ?_
            obtain ⟨hg, hf⟩ := zg_some hf
            refine x_iald hx hb B 66 (by decide) (fun _ => rfl) (zin_ok hg) dX9_object_111 ?_
            refine lv_goto (tgt := 116) hx hb dX9_object_112 (by decide) ?_
            refine W.widen (k := 0) (n := 0) (Nat.le_of_ble_eq_true rfl) (Nat.le_of_ble_eq_true rfl) ?_
            exact x_iret hx hb hr rfl hlocks B hf dX9_object_116
        · have hf := zif_t hc hf
          refine lv_aload_n hx hb dX9_object_86 rfl (lv_at hl 0 rfl) ?_
          refine x_getr hx hb hts hinRX9 hown B 65 0 66 (by decide) (by decide) (fun _ => rfl) rfl rfl (by decide) (by decide +kernel) rfl dX9_object_87 ?_
          refine lv_bipush (v := (27 : Int32)) hx hb dX9_object_90 (by decide) ?_
          refine lv_iload_n hx hb dX9_object_92 rfl (lv_at hl 1 rfl) ?_
          refine lv_iadd hx hb dX9_object_93 ?_
          obtain ⟨hg, hf⟩ := zg_some hf
          refine x_iald hx hb B 66 (by decide) (fun _ => rfl) (zin_ok hg) dX9_object_94 ?_
          refine lv_goto (tgt := 116) hx hb dX9_object_95 (by decide) ?_
          refine W.widen (k := 0) (n := 0) (Nat.le_of_ble_eq_true rfl) (Nat.le_of_ble_eq_true rfl) ?_
          exact x_iret hx hb hr rfl hlocks B hf dX9_object_116
      · have hf := zif_f hc hf
        refine lv_iload_n hx hb dX9_object_54 rfl (lv_at hl 3 rfl) ?_
        refine lv_aload_n hx hb dX9_object_55 rfl (lv_at hl 0 rfl) ?_
        refine x_getr hx hb hts hinRX9 hown B 65 0 66 (by decide) (by decide) (fun _ => rfl) rfl rfl (by decide) (by decide +kernel) rfl dX9_object_56 ?_
        refine lv_bipush (v := (51 : Int32)) hx hb dX9_object_59 (by decide) ?_
        refine lv_iload hx hb dX9_object_61 (lv_at hl 4 rfl) ?_
        refine lv_iadd hx hb dX9_object_63 ?_
        obtain ⟨hg, hf⟩ := zg_some hf
        refine x_iald hx hb B 66 (by decide) (fun _ => rfl) (zin_ok hg) dX9_object_64 ?_
        refine lv_iload_n hx hb dX9_object_65 rfl (lv_at hl 1 rfl) ?_
        refine lv_icmp_ne (tgt := 73) hx hb dX9_object_66 (by decide) (fun hc => ?_) (fun hc => ?_)
        · have hf := zif_f hc hf
          refine lv_iconst (v := (0 : Int32)) hx hb dX9_object_73 (by decide) ?_
          exact L74 _ ih  _ _ _ _ _ _ _ _ _ hf B (lv_sub hl [0, 1, 2, 4] rfl)
        · have hf := zif_t hc hf
          refine lv_iconst (v := (1 : Int32)) hx hb dX9_object_69 (by decide) ?_
          refine lv_goto (tgt := 74) hx hb dX9_object_70 (by decide) ?_
          exact L74 _ ih  _ _ _ _ _ _ _ _ _ hf B (lv_sub hl [0, 1, 2, 4] rfl)
  have L26 : ∀ (σ : zs) (v1 : Int32) (v2 : Int32) (s0 : Int32) (H : Heap) (locs : List Loc) (ls : Array Slot), f_X9_object_26 σ v1 v2 s0 = some (r, σ') → xB A s G ad σ H locs → lv_has ls 5 [(0, .ref (ad 65)), (1, .int v1), (2, .int v2)] → W p l e (headSpec wsX9_object rm_X9_object).room s m ([.ref (ad 65), .int a1, .int a2] : List Value).toArray below meth c H locs 0 0 (MQ below (va_Qi (fun r' (u : xV) => r' = r ∧ xQ σ' u) (xPost G ad σ' A) A) ([.ref (ad 65), .int a1, .int a2] : List Value).toArray s 0 0 A) (F0 m 26 ls [.int s0, .ref (ad 65)]) := by
    intro σ v1 v2 s0 H locs ls hf B hl
    unfold f_X9_object_26 at hf
    refine x_puti hx hb hts hinRX9 hown tyX9 tyX9_ok nmX9 B 65 3 (by decide) (by decide) (fun _ => rfl) rfl rfl (by decide) (by decide +kernel) rfl rfl rfl rfl dX9_object_26 (fun H locs B => ?_)
    refine lv_aload_n hx hb dX9_object_29 rfl (lv_at hl 0 rfl) ?_
    refine x_geti hx hb hts hinRX9 hown B 65 3 (by decide) (fun _ => rfl) rfl rfl (by decide) (by decide +kernel) rfl dX9_object_30 ?_
    refine lv_if_eq (tgt := 38) hx hb dX9_object_33 (by decide) (fun hc => ?_) (fun hc => ?_)
    · have hf := zif_t hc hf
      refine lv_iconst (v := (0 : Int32)) hx hb dX9_object_38 (by decide) ?_
      refine lv_istore_n (lv' := [(3, .int (0 : Int32)), (0, .ref (ad 65)), (1, .int v1), (2, .int v2)]) hx hb dX9_object_39 rfl hl (by decide) rfl (fun ls hl => ?_)
      refine lv_iconst (v := (0 : Int32)) hx hb dX9_object_40 (by decide) ?_
      refine lv_istore (lv' := [(4, .int (0 : Int32)), (3, .int (0 : Int32)), (0, .ref (ad 65)), (1, .int v1), (2, .int v2)]) hx hb dX9_object_41 hl (by decide) rfl (fun ls hl => ?_)
      exact L43  _ _ _ _ _ _ _ _ _ hf B (lv_sub hl [2, 3, 4, 1, 0] rfl)
    · have hf := zif_f hc hf
      refine lv_iconst (v := (0 : Int32)) hx hb dX9_object_36 (by decide) ?_
      refine W.widen (k := 0) (n := 0) (Nat.le_of_ble_eq_true rfl) (Nat.le_of_ble_eq_true rfl) ?_
      exact x_iret hx hb hr rfl hlocks B hf dX9_object_37
  unfold f_X9_object at hf
  refine lv_aload_n hx hb dX9_object_0 rfl (lv_at hl 0 rfl) ?_
  refine lv_iload_n hx hb dX9_object_1 rfl (lv_at hl 1 rfl) ?_
  obtain ⟨r2, σ3, hu1, hf⟩ := zb_some hf
  refine x_i B (fun nb a g hs Bz => va_runS (As := [.int a1]) (rest := [.ref (ad 65)]) ⟨hx, hb, hml, hown, hts⟩ (c_X9_isObject l hu1 _ nb a g hs) (va_cwS 1 hts gX9_object_X9_isObject rfl rfl rfl (by decide +kernel) ⟨Nat.le_of_ble_eq_true rfl, Nat.le_of_ble_eq_true rfl⟩) (z_preS Bz) rfl rfl hl.1 rfl (lv_room (Nat.le_of_ble_eq_true rfl)) dX9_object_2 ⟨Nat.le_of_ble_eq_true rfl, Nat.le_of_ble_eq_true rfl⟩) (fun H locs B => ?_)
  refine lv_if_ne (tgt := 12) hx hb dX9_object_5 (by decide) (fun hc => ?_) (fun hc => ?_)
  · have hf := zif_f hc hf
    refine lv_iload_n hx hb dX9_object_12 rfl (lv_at hl 2 rfl) ?_
    refine lv_iconst (v := (0 : Int32)) hx hb dX9_object_13 (by decide) ?_
    refine lv_iconst (v := (2 : Int32)) hx hb dX9_object_14 (by decide) ?_
    obtain ⟨r5, σ6, hu4, hf⟩ := zb_some hf
    refine x_i B (fun nb a g hs Bz => va_runS (As := [.int a2, .int (0 : Int32), .int (2 : Int32)]) (rest := [.ref (ad 65)]) ⟨hx, hb, hml, hown, hts⟩ (c_X9_isIn l hu4 _ nb a g hs) (va_cwS 3 hts gX9_object_X9_isIn rfl rfl rfl (by decide +kernel) ⟨Nat.le_of_ble_eq_true rfl, Nat.le_of_ble_eq_true rfl⟩) (z_preS Bz) rfl rfl hl.1 rfl (lv_room (Nat.le_of_ble_eq_true rfl)) dX9_object_15 ⟨Nat.le_of_ble_eq_true rfl, Nat.le_of_ble_eq_true rfl⟩) (fun H locs B => ?_)
    refine lv_if_eq (tgt := 25) hx hb dX9_object_18 (by decide) (fun hc => ?_) (fun hc => ?_)
    · have hf := zif_t hc hf
      refine lv_iconst (v := (2 : Int32)) hx hb dX9_object_25 (by decide) ?_
      exact L26  _ _ _ _ _ _ _ hf B (lv_sub hl [0, 1, 2] rfl)
    · have hf := zif_f hc hf
      refine lv_iconst (v := (0 : Int32)) hx hb dX9_object_21 (by decide) ?_
      refine lv_goto (tgt := 26) hx hb dX9_object_22 (by decide) ?_
      exact L26  _ _ _ _ _ _ _ hf B (lv_sub hl [0, 1, 2] rfl)
  · have hf := zif_t hc hf
    refine lv_iconst (v := (1 : Int32)) hx hb dX9_object_8 (by decide) ?_
    refine lv_goto (tgt := 26) hx hb dX9_object_9 (by decide) ?_
    exact L26  _ _ _ _ _ _ _ hf B (lv_sub hl [0, 1, 2] rfl)
theorem dX9_pass_0 : decode cX9_pass 0 = .ok (.aload_n 0, 1) := by decide +kernel
theorem dX9_pass_1 : decode cX9_pass 1 = .ok (.iload_n 1, 1) := by decide +kernel
theorem dX9_pass_2 : decode cX9_pass 2 = .ok (.iconst 1, 1) := by decide +kernel
theorem dX9_pass_3 : decode cX9_pass 3 = .ok (.bipush 100, 2) := by decide +kernel
theorem dX9_pass_5 : decode cX9_pass 5 = .ok (.invokestatic 44, 3) := by decide +kernel
theorem dX9_pass_8 : decode cX9_pass 8 = .ok (.ifCond .eq 7, 3) := by decide +kernel
theorem dX9_pass_11 : decode cX9_pass 11 = .ok (.iconst 0, 1) := by decide +kernel
theorem dX9_pass_12 : decode cX9_pass 12 = .ok (.goto 4, 3) := by decide +kernel
theorem dX9_pass_15 : decode cX9_pass 15 = .ok (.iconst 1, 1) := by decide +kernel
theorem dX9_pass_16 : decode cX9_pass 16 = .ok (.putfield 41, 3) := by decide +kernel
theorem dX9_pass_19 : decode cX9_pass 19 = .ok (.aload_n 0, 1) := by decide +kernel
theorem dX9_pass_20 : decode cX9_pass 20 = .ok (.getfield 41, 3) := by decide +kernel
theorem dX9_pass_23 : decode cX9_pass 23 = .ok (.ifCond .eq 5, 3) := by decide +kernel
theorem dX9_pass_26 : decode cX9_pass 26 = .ok (.iconst 0, 1) := by decide +kernel
theorem dX9_pass_27 : decode cX9_pass 27 = .ok (.ireturn, 1) := by decide +kernel
theorem dX9_pass_28 : decode cX9_pass 28 = .ok (.aload_n 0, 1) := by decide +kernel
theorem dX9_pass_29 : decode cX9_pass 29 = .ok (.getfield 9, 3) := by decide +kernel
theorem dX9_pass_32 : decode cX9_pass 32 = .ok (.sipush 599, 3) := by decide +kernel
theorem dX9_pass_35 : decode cX9_pass 35 = .ok (.iconst 0, 1) := by decide +kernel
theorem dX9_pass_36 : decode cX9_pass 36 = .ok (.iastore, 1) := by decide +kernel
theorem dX9_pass_37 : decode cX9_pass 37 = .ok (.iconst 0, 1) := by decide +kernel
theorem dX9_pass_38 : decode cX9_pass 38 = .ok (.istore_n 2, 1) := by decide +kernel
theorem dX9_pass_39 : decode cX9_pass 39 = .ok (.iload_n 2, 1) := by decide +kernel
theorem dX9_pass_40 : decode cX9_pass 40 = .ok (.iload_n 1, 1) := by decide +kernel
theorem dX9_pass_41 : decode cX9_pass 41 = .ok (.if_icmp .ge 81, 3) := by decide +kernel
theorem dX9_pass_44 : decode cX9_pass 44 = .ok (.aload_n 0, 1) := by decide +kernel
theorem dX9_pass_45 : decode cX9_pass 45 = .ok (.getfield 9, 3) := by decide +kernel
theorem dX9_pass_48 : decode cX9_pass 48 = .ok (.iconst 0, 1) := by decide +kernel
theorem dX9_pass_49 : decode cX9_pass 49 = .ok (.dup2, 1) := by decide +kernel
theorem dX9_pass_50 : decode cX9_pass 50 = .ok (.iaload, 1) := by decide +kernel
theorem dX9_pass_51 : decode cX9_pass 51 = .ok (.iconst 1, 1) := by decide +kernel
theorem dX9_pass_52 : decode cX9_pass 52 = .ok (.iadd, 1) := by decide +kernel
theorem dX9_pass_53 : decode cX9_pass 53 = .ok (.iastore, 1) := by decide +kernel
theorem dX9_pass_54 : decode cX9_pass 54 = .ok (.iconst 0, 1) := by decide +kernel
theorem dX9_pass_55 : decode cX9_pass 55 = .ok (.istore_n 3, 1) := by decide +kernel
theorem dX9_pass_56 : decode cX9_pass 56 = .ok (.iload_n 3, 1) := by decide +kernel
theorem dX9_pass_57 : decode cX9_pass 57 = .ok (.aload_n 0, 1) := by decide +kernel
theorem dX9_pass_58 : decode cX9_pass 58 = .ok (.getfield 9, 3) := by decide +kernel
theorem dX9_pass_61 : decode cX9_pass 61 = .ok (.iconst 1, 1) := by decide +kernel
theorem dX9_pass_62 : decode cX9_pass 62 = .ok (.iaload, 1) := by decide +kernel
theorem dX9_pass_63 : decode cX9_pass 63 = .ok (.if_icmp .ge 53, 3) := by decide +kernel
theorem dX9_pass_66 : decode cX9_pass 66 = .ok (.aload_n 0, 1) := by decide +kernel
theorem dX9_pass_67 : decode cX9_pass 67 = .ok (.iload_n 3, 1) := by decide +kernel
theorem dX9_pass_68 : decode cX9_pass 68 = .ok (.invokevirtual 171, 3) := by decide +kernel
theorem dX9_pass_71 : decode cX9_pass 71 = .ok (.aload_n 0, 1) := by decide +kernel
theorem dX9_pass_72 : decode cX9_pass 72 = .ok (.getfield 9, 3) := by decide +kernel
theorem dX9_pass_75 : decode cX9_pass 75 = .ok (.iconst 0, 1) := by decide +kernel
theorem dX9_pass_76 : decode cX9_pass 76 = .ok (.iaload, 1) := by decide +kernel
theorem dX9_pass_77 : decode cX9_pass 77 = .ok (.if_icmp .ne 33, 3) := by decide +kernel
theorem dX9_pass_80 : decode cX9_pass 80 = .ok (.aload_n 0, 1) := by decide +kernel
theorem dX9_pass_81 : decode cX9_pass 81 = .ok (.getfield 9, 3) := by decide +kernel
theorem dX9_pass_84 : decode cX9_pass 84 = .ok (.sipush 600, 3) := by decide +kernel
theorem dX9_pass_87 : decode cX9_pass 87 = .ok (.aload_n 0, 1) := by decide +kernel
theorem dX9_pass_88 : decode cX9_pass 88 = .ok (.getfield 9, 3) := by decide +kernel
theorem dX9_pass_91 : decode cX9_pass 91 = .ok (.sipush 599, 3) := by decide +kernel
theorem dX9_pass_94 : decode cX9_pass 94 = .ok (.iaload, 1) := by decide +kernel
theorem dX9_pass_95 : decode cX9_pass 95 = .ok (.iadd, 1) := by decide +kernel
theorem dX9_pass_96 : decode cX9_pass 96 = .ok (.iload_n 3, 1) := by decide +kernel
theorem dX9_pass_97 : decode cX9_pass 97 = .ok (.iastore, 1) := by decide +kernel
theorem dX9_pass_98 : decode cX9_pass 98 = .ok (.aload_n 0, 1) := by decide +kernel
theorem dX9_pass_99 : decode cX9_pass 99 = .ok (.getfield 9, 3) := by decide +kernel
theorem dX9_pass_102 : decode cX9_pass 102 = .ok (.sipush 599, 3) := by decide +kernel
theorem dX9_pass_105 : decode cX9_pass 105 = .ok (.dup2, 1) := by decide +kernel
theorem dX9_pass_106 : decode cX9_pass 106 = .ok (.iaload, 1) := by decide +kernel
theorem dX9_pass_107 : decode cX9_pass 107 = .ok (.iconst 1, 1) := by decide +kernel
theorem dX9_pass_108 : decode cX9_pass 108 = .ok (.iadd, 1) := by decide +kernel
theorem dX9_pass_109 : decode cX9_pass 109 = .ok (.iastore, 1) := by decide +kernel
theorem dX9_pass_110 : decode cX9_pass 110 = .ok (.iinc 3 1, 3) := by decide +kernel
theorem dX9_pass_113 : decode cX9_pass 113 = .ok (.goto (-57), 3) := by decide +kernel
theorem dX9_pass_116 : decode cX9_pass 116 = .ok (.iinc 2 1, 3) := by decide +kernel
theorem dX9_pass_119 : decode cX9_pass 119 = .ok (.goto (-80), 3) := by decide +kernel
theorem dX9_pass_122 : decode cX9_pass 122 = .ok (.aload_n 0, 1) := by decide +kernel
theorem dX9_pass_123 : decode cX9_pass 123 = .ok (.getfield 9, 3) := by decide +kernel
theorem dX9_pass_126 : decode cX9_pass 126 = .ok (.sipush 599, 3) := by decide +kernel
theorem dX9_pass_129 : decode cX9_pass 129 = .ok (.iaload, 1) := by decide +kernel
theorem dX9_pass_130 : decode cX9_pass 130 = .ok (.ireturn, 1) := by decide +kernel
set_option maxRecDepth 20000 in
theorem ggX9_pass_X9_isIn : GoodIn wsX9_pass wsX9_isIn := goodIn_r _ [6] (by decide +kernel) (by decide +kernel)
set_option maxRecDepth 20000 in
theorem gX9_pass_X9_isIn : GoodIn wsX9_pass (va_wsS RX9 44 yX9_isIn wsX9_isIn) := goodIn_app (goodIn_of _ (by decide +kernel)) ggX9_pass_X9_isIn
set_option maxRecDepth 20000 in
theorem ggX9_pass_X9_endOf : GoodIn wsX9_pass wsX9_endOf := goodIn_ca (goodIn_r _ [10, 11, 2, 12, 13, 14, 15, 16, 17, 18, 5, 19, 20, 21, 22, 23, 24, 25, 26, 27, 28, 29, 30, 31, 32, 33, 34, 35, 36, 37, 38, 39] (by decide +kernel) (by decide +kernel)) (goodIn_sub (fun _ h => List.mem_cons_of_mem _ (List.mem_append_right _ h)) (by decide +kernel))
set_option maxRecDepth 20000 in
theorem gX9_pass_X9_endOf : GoodIn wsX9_pass (wsV RX9 171 RX9 yX9_endOf wsX9_endOf) := goodIn_app (goodIn_of _ (by decide +kernel)) ggX9_pass_X9_endOf
def rm_X9_pass : Room := { frames := 3, cells := 0, slots := 0, locals := 64 }
set_option maxHeartbeats 4000000 in
set_option maxRecDepth 100000 in
theorem c_X9_pass (l : Launch) {G : zG} {ad : Nat → Nat} {σ σ' : zs} {a1 : Int32} {r : Int32} (hf : f_X9_pass σ a1 = some (r, σ')) : xMi l yX9_pass wsX9_pass rm_X9_pass G ad σ [.ref (ad 65), .int a1] r σ' := by
  intro sz nb a g hs
  refine Met.ofW (cc := cX9_pass) (maxL := 4) (ret := (some .int)) (by decide) rfl ?_
  intro p e s m args below meth c s₁ B hml hv
  obtain ⟨rfl, hsz, hv⟩ := hv
  have hx := B.exec
  have hb := B.bytes
  have hr := B.returns
  have hts := atoms_spec (ws := wsX9_pass) B.pre
  have hown : s.vm.findClass RX9 = some m.cls := findClass_of_methodNamed B.named
  have hlocks := B.notSynchronized
  subst hsz
  have B := xB_start hs hv
  have hinRX9 : ∀ w ∈ wsX90, w ∈ wsX9_pass := by decide +kernel
  have hl := lv_entry ([.ref (ad 65), .int a1]) (n := 4) (Nat.le_of_ble_eq_true rfl)
  rw [lg_entry_eq]
  generalize (lg_sl ([.ref (ad 65), .int a1]) ++ List.replicate (4 - (lg_sl ([.ref (ad 65), .int a1])).length) Slot.unset).toArray = ls at hl ⊢
  have hl : lv_has ls 4 [(0, .ref (ad 65)), (1, .int a1)] := hl
  generalize hAe : xA ad a s.heap.size = A at B ⊢
  have L56 : ∀ (K39 : zs → Int32 → Int32 → Option (Int32 × zs)) (hK39 : ∀ (σ : zs) (v1 : Int32) (v2 : Int32) (H : Heap) (locs : List Loc) (ls : Array Slot), K39 σ v1 v2 = some (r, σ') → xB A s G ad σ H locs → lv_has ls 4 [(0, .ref (ad 65)), (1, .int v1), (2, .int v2)] → W p l e (headSpec wsX9_pass rm_X9_pass).room s m ([.ref (ad 65), .int a1] : List Value).toArray below meth c H locs 0 0 (MQ below (va_Qi (fun r' (u : xV) => r' = r ∧ xQ σ' u) (xPost G ad σ' A) A) ([.ref (ad 65), .int a1] : List Value).toArray s 0 0 A) (F0 m 39 ls [])) (n : Nat) (σ : zs) (v1 : Int32) (v2 : Int32) (v3 : Int32) (H : Heap) (locs : List Loc) (ls : Array Slot), zlp3 (f_X9_pass_56 K39) n σ v1 v2 v3 = some (r, σ') → xB A s G ad σ H locs → lv_has ls 4 [(0, .ref (ad 65)), (1, .int v1), (2, .int v2), (3, .int v3)] → W p l e (headSpec wsX9_pass rm_X9_pass).room s m ([.ref (ad 65), .int a1] : List Value).toArray below meth c H locs 0 0 (MQ below (va_Qi (fun r' (u : xV) => r' = r ∧ xQ σ' u) (xPost G ad σ' A) A) ([.ref (ad 65), .int a1] : List Value).toArray s 0 0 A) (F0 m 56 ls []) := by
    intro K39 hK39 n
    induction n with
    | zero =>
      intro σ v1 v2 v3 H locs ls hf
      cases hf
    | succ n ih =>
      intro σ v1 v2 v3 H locs ls hf B hl
      have hf : f_X9_pass_56 K39 (zlp3 (f_X9_pass_56 K39) n) σ v1 v2 v3 = some (r, σ') := hf
      unfold f_X9_pass_56 at hf
      refine lv_iload_n hx hb dX9_pass_56 rfl (lv_at hl 3 rfl) ?_
      refine lv_aload_n hx hb dX9_pass_57 rfl (lv_at hl 0 rfl) ?_
      refine x_getr hx hb hts hinRX9 hown B 65 0 66 (by decide) (by decide) (fun _ => rfl) rfl rfl (by decide) (by decide +kernel) rfl dX9_pass_58 ?_
      refine lv_iconst (v := (1 : Int32)) hx hb dX9_pass_61 (by decide) ?_
      obtain ⟨hg, hf⟩ := zg_some hf
      refine x_iald hx hb B 66 (by decide) (fun _ => rfl) (zin_ok hg) dX9_pass_62 ?_
      refine lv_icmp_ge (tgt := 116) hx hb dX9_pass_63 (by decide) (fun hc => ?_) (fun hc => ?_)
      · have hf := zif_t hc hf
        refine lv_iinc (v := (v2 + (1 : Int32))) (lv' := [(2, .int (v2 + (1 : Int32))), (0, .ref (ad 65)), (1, .int v1), (3, .int v3)]) hx hb dX9_pass_116 hl (k := 2) rfl (zc1 (by decide)) (by decide) rfl (fun ls hl => ?_)
        refine lv_goto (tgt := 39) hx hb dX9_pass_119 (by decide) ?_
        exact hK39 _ _ _ _ _ _ hf B (lv_sub hl [1, 2, 0] rfl)
      · have hf := zif_f hc hf
        refine lv_aload_n hx hb dX9_pass_66 rfl (lv_at hl 0 rfl) ?_
        refine lv_iload_n hx hb dX9_pass_67 rfl (lv_at hl 3 rfl) ?_
        obtain ⟨r5, σ6, hu4, hf⟩ := zb_some hf
        refine x_i B (fun nb a g hs Bz => va_runV (As := [.int v3]) (rest := []) ⟨hx, hb, hml, hown, hts⟩ (c_X9_endOf l hu4 _ nb a g hs) (cwV 1 hts gX9_pass_X9_endOf rfl rfl rfl (by decide +kernel) ⟨Nat.le_of_ble_eq_true rfl, Nat.le_of_ble_eq_true rfl⟩) (x_preV Bz (by decide) (fun _ => rfl) rfl) rfl rfl hl.1 rfl (lv_room (Nat.le_of_ble_eq_true rfl)) dX9_pass_68 ⟨Nat.le_of_ble_eq_true rfl, Nat.le_of_ble_eq_true rfl⟩) (fun H locs B => ?_)
        refine lv_aload_n hx hb dX9_pass_71 rfl (lv_at hl 0 rfl) ?_
        refine x_getr hx hb hts hinRX9 hown B 65 0 66 (by decide) (by decide) (fun _ => rfl) rfl rfl (by decide) (by decide +kernel) rfl dX9_pass_72 ?_
        refine lv_iconst (v := (0 : Int32)) hx hb dX9_pass_75 (by decide) ?_
        obtain ⟨hg, hf⟩ := zg_some hf
        refine x_iald hx hb B 66 (by decide) (fun _ => rfl) (zin_ok hg) dX9_pass_76 ?_
        refine lv_icmp_ne (tgt := 110) hx hb dX9_pass_77 (by decide) (fun hc => ?_) (fun hc => ?_)
        · have hf := zif_f hc hf
          refine lv_iinc (v := (v3 + (1 : Int32))) (lv' := [(3, .int (v3 + (1 : Int32))), (0, .ref (ad 65)), (1, .int v1), (2, .int v2)]) hx hb dX9_pass_110 hl (k := 3) rfl (zc1 (by decide)) (by decide) rfl (fun ls hl => ?_)
          refine lv_goto (tgt := 56) hx hb dX9_pass_113 (by decide) ?_
          exact ih _ _ _ _ _ _ _ hf B (lv_sub hl [1, 2, 3, 0] rfl)
        · have hf := zif_t hc hf
          refine lv_aload_n hx hb dX9_pass_80 rfl (lv_at hl 0 rfl) ?_
          refine x_getr hx hb hts hinRX9 hown B 65 0 66 (by decide) (by decide) (fun _ => rfl) rfl rfl (by decide) (by decide +kernel) rfl dX9_pass_81 ?_
          refine lv_sipush (v := (600 : Int32)) hx hb dX9_pass_84 (by decide) ?_
          refine lv_aload_n hx hb dX9_pass_87 rfl (lv_at hl 0 rfl) ?_
          refine x_getr hx hb hts hinRX9 hown B 65 0 66 (by decide) (by decide) (fun _ => rfl) rfl rfl (by decide) (by decide +kernel) rfl dX9_pass_88 ?_
          refine lv_sipush (v := (599 : Int32)) hx hb dX9_pass_91 (by decide) ?_
          obtain ⟨hg, hf⟩ := zg_some hf
          refine x_iald hx hb B 66 (by decide) (fun _ => rfl) (zin_ok hg) dX9_pass_94 ?_
          refine lv_iadd hx hb dX9_pass_95 ?_
          refine lv_iload_n hx hb dX9_pass_96 rfl (lv_at hl 3 rfl) ?_
          obtain ⟨hg, hf⟩ := zg_some hf
          refine x_iast hx hb B 66 (by decide) (by decide) (fun _ => rfl) (zin_ok hg) dX9_pass_97 (fun H locs B => ?_)
          refine lv_aload_n hx hb dX9_pass_98 rfl (lv_at hl 0 rfl) ?_
          refine x_getr hx hb hts hinRX9 hown B 65 0 66 (by decide) (by decide) (fun _ => rfl) rfl rfl (by decide) (by decide +kernel) rfl dX9_pass_99 ?_
          refine lv_sipush (v := (599 : Int32)) hx hb dX9_pass_102 (by decide) ?_
          refine lv_dup2_11 hx hb dX9_pass_105 rfl rfl ?_
          obtain ⟨hg, hf⟩ := zg_some hf
          refine x_iald hx hb B 66 (by decide) (fun _ => rfl) (zin_ok hg) dX9_pass_106 ?_
          refine lv_iconst (v := (1 : Int32)) hx hb dX9_pass_107 (by decide) ?_
          refine lv_iadd hx hb dX9_pass_108 ?_
          obtain ⟨hg, hf⟩ := zg_some hf
          refine x_iast hx hb B 66 (by decide) (by decide) (fun _ => rfl) (zin_ok hg) dX9_pass_109 (fun H locs B => ?_)
          refine lv_iinc (v := (v3 + (1 : Int32))) (lv' := [(3, .int (v3 + (1 : Int32))), (0, .ref (ad 65)), (1, .int v1), (2, .int v2)]) hx hb dX9_pass_110 hl (k := 3) rfl (zc1 (by decide)) (by decide) rfl (fun ls hl => ?_)
          refine lv_goto (tgt := 56) hx hb dX9_pass_113 (by decide) ?_
          exact ih _ _ _ _ _ _ _ hf B (lv_sub hl [1, 2, 3, 0] rfl)
  have L39 : ∀ (n : Nat) (σ : zs) (v1 : Int32) (v2 : Int32) (H : Heap) (locs : List Loc) (ls : Array Slot), zlp2 (f_X9_pass_39) n σ v1 v2 = some (r, σ') → xB A s G ad σ H locs → lv_has ls 4 [(0, .ref (ad 65)), (1, .int v1), (2, .int v2)] → W p l e (headSpec wsX9_pass rm_X9_pass).room s m ([.ref (ad 65), .int a1] : List Value).toArray below meth c H locs 0 0 (MQ below (va_Qi (fun r' (u : xV) => r' = r ∧ xQ σ' u) (xPost G ad σ' A) A) ([.ref (ad 65), .int a1] : List Value).toArray s 0 0 A) (F0 m 39 ls []) := by
    intro n
    induction n with
    | zero =>
      intro σ v1 v2 H locs ls hf
      cases hf
    | succ n ih =>
      intro σ v1 v2 H locs ls hf B hl
      have hf : f_X9_pass_39 (zlp2 (f_X9_pass_39) n) σ v1 v2 = some (r, σ') := hf
      unfold f_X9_pass_39 at hf
      refine lv_iload_n hx hb dX9_pass_39 rfl (lv_at hl 2 rfl) ?_
      refine lv_iload_n hx hb dX9_pass_40 rfl (lv_at hl 1 rfl) ?_
      refine lv_icmp_ge (tgt := 122) hx hb dX9_pass_41 (by decide) (fun hc => ?_) (fun hc => ?_)
      · have hf := zif_t hc hf
        refine lv_aload_n hx hb dX9_pass_122 rfl (lv_at hl 0 rfl) ?_
        refine x_getr hx hb hts hinRX9 hown B 65 0 66 (by decide) (by decide) (fun _ => rfl) rfl rfl (by decide) (by decide +kernel) rfl dX9_pass_123 ?_
        refine lv_sipush (v := (599 : Int32)) hx hb dX9_pass_126 (by decide) ?_
        obtain ⟨hg, hf⟩ := zg_some hf
        refine x_iald hx hb B 66 (by decide) (fun _ => rfl) (zin_ok hg) dX9_pass_129 ?_
        refine W.widen (k := 0) (n := 0) (Nat.le_of_ble_eq_true rfl) (Nat.le_of_ble_eq_true rfl) ?_
        exact x_iret hx hb hr rfl hlocks B hf dX9_pass_130
      · have hf := zif_f hc hf
        refine lv_aload_n hx hb dX9_pass_44 rfl (lv_at hl 0 rfl) ?_
        refine x_getr hx hb hts hinRX9 hown B 65 0 66 (by decide) (by decide) (fun _ => rfl) rfl rfl (by decide) (by decide +kernel) rfl dX9_pass_45 ?_
        refine lv_iconst (v := (0 : Int32)) hx hb dX9_pass_48 (by decide) ?_
        refine lv_dup2_11 hx hb dX9_pass_49 rfl rfl ?_
        obtain ⟨hg, hf⟩ := zg_some hf
        refine x_iald hx hb B 66 (by decide) (fun _ => rfl) (zin_ok hg) dX9_pass_50 ?_
        refine lv_iconst (v := (1 : Int32)) hx hb dX9_pass_51 (by decide) ?_
        refine lv_iadd hx hb dX9_pass_52 ?_
        obtain ⟨hg, hf⟩ := zg_some hf
        refine x_iast hx hb B 66 (by decide) (by decide) (fun _ => rfl) (zin_ok hg) dX9_pass_53 (fun H locs B => ?_)
        refine lv_iconst (v := (0 : Int32)) hx hb dX9_pass_54 (by decide) ?_
        refine lv_istore_n (lv' := [(3, .int (0 : Int32)), (0, .ref (ad 65)), (1, .int v1), (2, .int v2)]) hx hb dX9_pass_55 rfl hl (by decide) rfl (fun ls hl => ?_)
        exact L56 _ ih  _ _ _ _ _ _ _ _ hf B (lv_sub hl [1, 2, 3, 0] rfl)
  have L16 : ∀ (σ : zs) (v1 : Int32) (s0 : Int32) (H : Heap) (locs : List Loc) (ls : Array Slot), f_X9_pass_16 σ v1 s0 = some (r, σ') → xB A s G ad σ H locs → lv_has ls 4 [(0, .ref (ad 65)), (1, .int v1)] → W p l e (headSpec wsX9_pass rm_X9_pass).room s m ([.ref (ad 65), .int a1] : List Value).toArray below meth c H locs 0 0 (MQ below (va_Qi (fun r' (u : xV) => r' = r ∧ xQ σ' u) (xPost G ad σ' A) A) ([.ref (ad 65), .int a1] : List Value).toArray s 0 0 A) (F0 m 16 ls [.int s0, .ref (ad 65)]) := by
    intro σ v1 s0 H locs ls hf B hl
    unfold f_X9_pass_16 at hf
    refine x_puti hx hb hts hinRX9 hown tyX9 tyX9_ok nmX9 B 65 3 (by decide) (by decide) (fun _ => rfl) rfl rfl (by decide) (by decide +kernel) rfl rfl rfl rfl dX9_pass_16 (fun H locs B => ?_)
    refine lv_aload_n hx hb dX9_pass_19 rfl (lv_at hl 0 rfl) ?_
    refine x_geti hx hb hts hinRX9 hown B 65 3 (by decide) (fun _ => rfl) rfl rfl (by decide) (by decide +kernel) rfl dX9_pass_20 ?_
    refine lv_if_eq (tgt := 28) hx hb dX9_pass_23 (by decide) (fun hc => ?_) (fun hc => ?_)
    · have hf := zif_t hc hf
      refine lv_aload_n hx hb dX9_pass_28 rfl (lv_at hl 0 rfl) ?_
      refine x_getr hx hb hts hinRX9 hown B 65 0 66 (by decide) (by decide) (fun _ => rfl) rfl rfl (by decide) (by decide +kernel) rfl dX9_pass_29 ?_
      refine lv_sipush (v := (599 : Int32)) hx hb dX9_pass_32 (by decide) ?_
      refine lv_iconst (v := (0 : Int32)) hx hb dX9_pass_35 (by decide) ?_
      obtain ⟨hg, hf⟩ := zg_some hf
      refine x_iast hx hb B 66 (by decide) (by decide) (fun _ => rfl) (zin_ok hg) dX9_pass_36 (fun H locs B => ?_)
      refine lv_iconst (v := (0 : Int32)) hx hb dX9_pass_37 (by decide) ?_
      refine lv_istore_n (lv' := [(2, .int (0 : Int32)), (0, .ref (ad 65)), (1, .int v1)]) hx hb dX9_pass_38 rfl hl (by decide) rfl (fun ls hl => ?_)
      exact L39  _ _ _ _ _ _ _ hf B (lv_sub hl [1, 2, 0] rfl)
    · have hf := zif_f hc hf
      refine lv_iconst (v := (0 : Int32)) hx hb dX9_pass_26 (by decide) ?_
      refine W.widen (k := 0) (n := 0) (Nat.le_of_ble_eq_true rfl) (Nat.le_of_ble_eq_true rfl) ?_
      exact x_iret hx hb hr rfl hlocks B hf dX9_pass_27
  unfold f_X9_pass at hf
  refine lv_aload_n hx hb dX9_pass_0 rfl (lv_at hl 0 rfl) ?_
  refine lv_iload_n hx hb dX9_pass_1 rfl (lv_at hl 1 rfl) ?_
  refine lv_iconst (v := (1 : Int32)) hx hb dX9_pass_2 (by decide) ?_
  refine lv_bipush (v := (100 : Int32)) hx hb dX9_pass_3 (by decide) ?_
  obtain ⟨r2, σ3, hu1, hf⟩ := zb_some hf
  refine x_i B (fun nb a g hs Bz => va_runS (As := [.int a1, .int (1 : Int32), .int (100 : Int32)]) (rest := [.ref (ad 65)]) ⟨hx, hb, hml, hown, hts⟩ (c_X9_isIn l hu1 _ nb a g hs) (va_cwS 3 hts gX9_pass_X9_isIn rfl rfl rfl (by decide +kernel) ⟨Nat.le_of_ble_eq_true rfl, Nat.le_of_ble_eq_true rfl⟩) (z_preS Bz) rfl rfl hl.1 rfl (lv_room (Nat.le_of_ble_eq_true rfl)) dX9_pass_5 ⟨Nat.le_of_ble_eq_true rfl, Nat.le_of_ble_eq_true rfl⟩) (fun H locs B => ?_)
  refine lv_if_eq (tgt := 15) hx hb dX9_pass_8 (by decide) (fun hc => ?_) (fun hc => ?_)
  · have hf := zif_t hc hf
    refine lv_iconst (v := (1 : Int32)) hx hb dX9_pass_15 (by decide) ?_
    exact L16  _ _ _ _ _ _ hf B (lv_sub hl [0, 1] rfl)
  · have hf := zif_f hc hf
    refine lv_iconst (v := (0 : Int32)) hx hb dX9_pass_11 (by decide) ?_
    refine lv_goto (tgt := 16) hx hb dX9_pass_12 (by decide) ?_
    exact L16  _ _ _ _ _ _ hf B (lv_sub hl [0, 1] rfl)
theorem dX9_expired_0 : decode cX9_expired 0 = .ok (.aload_n 0, 1) := by decide +kernel
theorem dX9_expired_1 : decode cX9_expired 1 = .ok (.iload_n 1, 1) := by decide +kernel
theorem dX9_expired_2 : decode cX9_expired 2 = .ok (.iconst 0, 1) := by decide +kernel
theorem dX9_expired_3 : decode cX9_expired 3 = .ok (.aload_n 0, 1) := by decide +kernel
theorem dX9_expired_4 : decode cX9_expired 4 = .ok (.getfield 9, 3) := by decide +kernel
theorem dX9_expired_7 : decode cX9_expired 7 = .ok (.sipush 599, 3) := by decide +kernel
theorem dX9_expired_10 : decode cX9_expired 10 = .ok (.iaload, 1) := by decide +kernel
theorem dX9_expired_11 : decode cX9_expired 11 = .ok (.iconst 1, 1) := by decide +kernel
theorem dX9_expired_12 : decode cX9_expired 12 = .ok (.isub, 1) := by decide +kernel
theorem dX9_expired_13 : decode cX9_expired 13 = .ok (.invokestatic 44, 3) := by decide +kernel
theorem dX9_expired_16 : decode cX9_expired 16 = .ok (.ifCond .eq 7, 3) := by decide +kernel
theorem dX9_expired_19 : decode cX9_expired 19 = .ok (.iconst 0, 1) := by decide +kernel
theorem dX9_expired_20 : decode cX9_expired 20 = .ok (.goto 4, 3) := by decide +kernel
theorem dX9_expired_23 : decode cX9_expired 23 = .ok (.iconst 1, 1) := by decide +kernel
theorem dX9_expired_24 : decode cX9_expired 24 = .ok (.putfield 41, 3) := by decide +kernel
theorem dX9_expired_27 : decode cX9_expired 27 = .ok (.aload_n 0, 1) := by decide +kernel
theorem dX9_expired_28 : decode cX9_expired 28 = .ok (.getfield 41, 3) := by decide +kernel
theorem dX9_expired_31 : decode cX9_expired 31 = .ok (.ifCond .ne 16, 3) := by decide +kernel
theorem dX9_expired_34 : decode cX9_expired 34 = .ok (.aload_n 0, 1) := by decide +kernel
theorem dX9_expired_35 : decode cX9_expired 35 = .ok (.getfield 9, 3) := by decide +kernel
theorem dX9_expired_38 : decode cX9_expired 38 = .ok (.sipush 600, 3) := by decide +kernel
theorem dX9_expired_41 : decode cX9_expired 41 = .ok (.iload_n 1, 1) := by decide +kernel
theorem dX9_expired_42 : decode cX9_expired 42 = .ok (.iadd, 1) := by decide +kernel
theorem dX9_expired_43 : decode cX9_expired 43 = .ok (.iaload, 1) := by decide +kernel
theorem dX9_expired_44 : decode cX9_expired 44 = .ok (.goto 4, 3) := by decide +kernel
theorem dX9_expired_47 : decode cX9_expired 47 = .ok (.iconst 0, 1) := by decide +kernel
theorem dX9_expired_48 : decode cX9_expired 48 = .ok (.ireturn, 1) := by decide +kernel
set_option maxRecDepth 20000 in
theorem ggX9_expired_X9_isIn : GoodIn wsX9_expired wsX9_isIn := goodIn_r _ [6] (by decide +kernel) (by decide +kernel)
set_option maxRecDepth 20000 in
theorem gX9_expired_X9_isIn : GoodIn wsX9_expired (va_wsS RX9 44 yX9_isIn wsX9_isIn) := goodIn_app (goodIn_of _ (by decide +kernel)) ggX9_expired_X9_isIn
def rm_X9_expired : Room := { frames := 2, cells := 0, slots := 0, locals := 38 }
set_option maxHeartbeats 4000000 in
set_option maxRecDepth 100000 in
theorem c_X9_expired (l : Launch) {G : zG} {ad : Nat → Nat} {σ σ' : zs} {a1 : Int32} {r : Int32} (hf : f_X9_expired σ a1 = some (r, σ')) : xMi l yX9_expired wsX9_expired rm_X9_expired G ad σ [.ref (ad 65), .int a1] r σ' := by
  intro sz nb a g hs
  refine Met.ofW (cc := cX9_expired) (maxL := 2) (ret := (some .int)) (by decide) rfl ?_
  intro p e s m args below meth c s₁ B hml hv
  obtain ⟨rfl, hsz, hv⟩ := hv
  have hx := B.exec
  have hb := B.bytes
  have hr := B.returns
  have hts := atoms_spec (ws := wsX9_expired) B.pre
  have hown : s.vm.findClass RX9 = some m.cls := findClass_of_methodNamed B.named
  have hlocks := B.notSynchronized
  subst hsz
  have B := xB_start hs hv
  have hinRX9 : ∀ w ∈ wsX90, w ∈ wsX9_expired := by decide +kernel
  have hl := lv_entry ([.ref (ad 65), .int a1]) (n := 2) (Nat.le_of_ble_eq_true rfl)
  rw [lg_entry_eq]
  generalize (lg_sl ([.ref (ad 65), .int a1]) ++ List.replicate (2 - (lg_sl ([.ref (ad 65), .int a1])).length) Slot.unset).toArray = ls at hl ⊢
  have hl : lv_has ls 2 [(0, .ref (ad 65)), (1, .int a1)] := hl
  generalize hAe : xA ad a s.heap.size = A at B ⊢
  have L24 : ∀ (σ : zs) (v1 : Int32) (s0 : Int32) (H : Heap) (locs : List Loc) (ls : Array Slot), f_X9_expired_24 σ v1 s0 = some (r, σ') → xB A s G ad σ H locs → lv_has ls 2 [(0, .ref (ad 65)), (1, .int v1)] → W p l e (headSpec wsX9_expired rm_X9_expired).room s m ([.ref (ad 65), .int a1] : List Value).toArray below meth c H locs 0 0 (MQ below (va_Qi (fun r' (u : xV) => r' = r ∧ xQ σ' u) (xPost G ad σ' A) A) ([.ref (ad 65), .int a1] : List Value).toArray s 0 0 A) (F0 m 24 ls [.int s0, .ref (ad 65)]) := by
    intro σ v1 s0 H locs ls hf B hl
    unfold f_X9_expired_24 at hf
    refine x_puti hx hb hts hinRX9 hown tyX9 tyX9_ok nmX9 B 65 3 (by decide) (by decide) (fun _ => rfl) rfl rfl (by decide) (by decide +kernel) rfl rfl rfl rfl dX9_expired_24 (fun H locs B => ?_)
    refine lv_aload_n hx hb dX9_expired_27 rfl (lv_at hl 0 rfl) ?_
    refine x_geti hx hb hts hinRX9 hown B 65 3 (by decide) (fun _ => rfl) rfl rfl (by decide) (by decide +kernel) rfl dX9_expired_28 ?_
    refine lv_if_ne (tgt := 47) hx hb dX9_expired_31 (by decide) (fun hc => ?_) (fun hc => ?_)
    · have hf := zif_f hc hf
      refine lv_iconst (v := (0 : Int32)) hx hb dX9_expired_47 (by decide) ?_
      refine W.widen (k := 0) (n := 0) (Nat.le_of_ble_eq_true rfl) (Nat.le_of_ble_eq_true rfl) ?_
      exact x_iret hx hb hr rfl hlocks B hf dX9_expired_48
    · have hf := zif_t hc hf
      refine lv_aload_n hx hb dX9_expired_34 rfl (lv_at hl 0 rfl) ?_
      refine x_getr hx hb hts hinRX9 hown B 65 0 66 (by decide) (by decide) (fun _ => rfl) rfl rfl (by decide) (by decide +kernel) rfl dX9_expired_35 ?_
      refine lv_sipush (v := (600 : Int32)) hx hb dX9_expired_38 (by decide) ?_
      refine lv_iload_n hx hb dX9_expired_41 rfl (lv_at hl 1 rfl) ?_
      refine lv_iadd hx hb dX9_expired_42 ?_
      obtain ⟨hg, hf⟩ := zg_some hf
      refine x_iald hx hb B 66 (by decide) (fun _ => rfl) (zin_ok hg) dX9_expired_43 ?_
      refine lv_goto (tgt := 48) hx hb dX9_expired_44 (by decide) ?_
      refine W.widen (k := 0) (n := 0) (Nat.le_of_ble_eq_true rfl) (Nat.le_of_ble_eq_true rfl) ?_
      exact x_iret hx hb hr rfl hlocks B hf dX9_expired_48
  unfold f_X9_expired at hf
  refine lv_aload_n hx hb dX9_expired_0 rfl (lv_at hl 0 rfl) ?_
  refine lv_iload_n hx hb dX9_expired_1 rfl (lv_at hl 1 rfl) ?_
  refine lv_iconst (v := (0 : Int32)) hx hb dX9_expired_2 (by decide) ?_
  refine lv_aload_n hx hb dX9_expired_3 rfl (lv_at hl 0 rfl) ?_
  refine x_getr hx hb hts hinRX9 hown B 65 0 66 (by decide) (by decide) (fun _ => rfl) rfl rfl (by decide) (by decide +kernel) rfl dX9_expired_4 ?_
  refine lv_sipush (v := (599 : Int32)) hx hb dX9_expired_7 (by decide) ?_
  obtain ⟨hg, hf⟩ := zg_some hf
  refine x_iald hx hb B 66 (by decide) (fun _ => rfl) (zin_ok hg) dX9_expired_10 ?_
  refine lv_iconst (v := (1 : Int32)) hx hb dX9_expired_11 (by decide) ?_
  refine lv_isub hx hb dX9_expired_12 ?_
  obtain ⟨r2, σ3, hu1, hf⟩ := zb_some hf
  refine x_i B (fun nb a g hs Bz => va_runS (As := [.int a1, .int (0 : Int32), .int ((σ 66 (599 : Int32).toNatClampNeg) - (1 : Int32))]) (rest := [.ref (ad 65)]) ⟨hx, hb, hml, hown, hts⟩ (c_X9_isIn l hu1 _ nb a g hs) (va_cwS 3 hts gX9_expired_X9_isIn rfl rfl rfl (by decide +kernel) ⟨Nat.le_of_ble_eq_true rfl, Nat.le_of_ble_eq_true rfl⟩) (z_preS Bz) rfl rfl hl.1 rfl (lv_room (Nat.le_of_ble_eq_true rfl)) dX9_expired_13 ⟨Nat.le_of_ble_eq_true rfl, Nat.le_of_ble_eq_true rfl⟩) (fun H locs B => ?_)
  refine lv_if_eq (tgt := 23) hx hb dX9_expired_16 (by decide) (fun hc => ?_) (fun hc => ?_)
  · have hf := zif_t hc hf
    refine lv_iconst (v := (1 : Int32)) hx hb dX9_expired_23 (by decide) ?_
    exact L24  _ _ _ _ _ _ hf B (lv_sub hl [0, 1] rfl)
  · have hf := zif_f hc hf
    refine lv_iconst (v := (0 : Int32)) hx hb dX9_expired_19 (by decide) ?_
    refine lv_goto (tgt := 24) hx hb dX9_expired_20 (by decide) ?_
    exact L24  _ _ _ _ _ _ hf B (lv_sub hl [0, 1] rfl)
theorem dX9_log_0 : decode cX9_log 0 = .ok (.aload_n 0, 1) := by decide +kernel
theorem dX9_log_1 : decode cX9_log 1 = .ok (.iload_n 1, 1) := by decide +kernel
theorem dX9_log_2 : decode cX9_log 2 = .ok (.iconst 0, 1) := by decide +kernel
theorem dX9_log_3 : decode cX9_log 3 = .ok (.aload_n 0, 1) := by decide +kernel
theorem dX9_log_4 : decode cX9_log 4 = .ok (.getfield 9, 3) := by decide +kernel
theorem dX9_log_7 : decode cX9_log 7 = .ok (.bipush 6, 2) := by decide +kernel
theorem dX9_log_9 : decode cX9_log 9 = .ok (.iaload, 1) := by decide +kernel
theorem dX9_log_10 : decode cX9_log 10 = .ok (.iconst 1, 1) := by decide +kernel
theorem dX9_log_11 : decode cX9_log 11 = .ok (.isub, 1) := by decide +kernel
theorem dX9_log_12 : decode cX9_log 12 = .ok (.invokestatic 44, 3) := by decide +kernel
theorem dX9_log_15 : decode cX9_log 15 = .ok (.ifCond .eq 7, 3) := by decide +kernel
theorem dX9_log_18 : decode cX9_log 18 = .ok (.iconst 0, 1) := by decide +kernel
theorem dX9_log_19 : decode cX9_log 19 = .ok (.goto 4, 3) := by decide +kernel
theorem dX9_log_22 : decode cX9_log 22 = .ok (.iconst 1, 1) := by decide +kernel
theorem dX9_log_23 : decode cX9_log 23 = .ok (.putfield 41, 3) := by decide +kernel
theorem dX9_log_26 : decode cX9_log 26 = .ok (.aload_n 0, 1) := by decide +kernel
theorem dX9_log_27 : decode cX9_log 27 = .ok (.getfield 41, 3) := by decide +kernel
theorem dX9_log_30 : decode cX9_log 30 = .ok (.ifCond .ne 15, 3) := by decide +kernel
theorem dX9_log_33 : decode cX9_log 33 = .ok (.aload_n 0, 1) := by decide +kernel
theorem dX9_log_34 : decode cX9_log 34 = .ok (.getfield 9, 3) := by decide +kernel
theorem dX9_log_37 : decode cX9_log 37 = .ok (.bipush 7, 2) := by decide +kernel
theorem dX9_log_39 : decode cX9_log 39 = .ok (.iload_n 1, 1) := by decide +kernel
theorem dX9_log_40 : decode cX9_log 40 = .ok (.iadd, 1) := by decide +kernel
theorem dX9_log_41 : decode cX9_log 41 = .ok (.iaload, 1) := by decide +kernel
theorem dX9_log_42 : decode cX9_log 42 = .ok (.goto 4, 3) := by decide +kernel
theorem dX9_log_45 : decode cX9_log 45 = .ok (.iconst 0, 1) := by decide +kernel
theorem dX9_log_46 : decode cX9_log 46 = .ok (.ireturn, 1) := by decide +kernel
set_option maxRecDepth 20000 in
theorem ggX9_log_X9_isIn : GoodIn wsX9_log wsX9_isIn := goodIn_r _ [6] (by decide +kernel) (by decide +kernel)
set_option maxRecDepth 20000 in
theorem gX9_log_X9_isIn : GoodIn wsX9_log (va_wsS RX9 44 yX9_isIn wsX9_isIn) := goodIn_app (goodIn_of _ (by decide +kernel)) ggX9_log_X9_isIn
def rm_X9_log : Room := { frames := 2, cells := 0, slots := 0, locals := 38 }
set_option maxHeartbeats 4000000 in
set_option maxRecDepth 100000 in
theorem c_X9_log (l : Launch) {G : zG} {ad : Nat → Nat} {σ σ' : zs} {a1 : Int32} {r : Int32} (hf : f_X9_log σ a1 = some (r, σ')) : xMi l yX9_log wsX9_log rm_X9_log G ad σ [.ref (ad 65), .int a1] r σ' := by
  intro sz nb a g hs
  refine Met.ofW (cc := cX9_log) (maxL := 2) (ret := (some .int)) (by decide) rfl ?_
  intro p e s m args below meth c s₁ B hml hv
  obtain ⟨rfl, hsz, hv⟩ := hv
  have hx := B.exec
  have hb := B.bytes
  have hr := B.returns
  have hts := atoms_spec (ws := wsX9_log) B.pre
  have hown : s.vm.findClass RX9 = some m.cls := findClass_of_methodNamed B.named
  have hlocks := B.notSynchronized
  subst hsz
  have B := xB_start hs hv
  have hinRX9 : ∀ w ∈ wsX90, w ∈ wsX9_log := by decide +kernel
  have hl := lv_entry ([.ref (ad 65), .int a1]) (n := 2) (Nat.le_of_ble_eq_true rfl)
  rw [lg_entry_eq]
  generalize (lg_sl ([.ref (ad 65), .int a1]) ++ List.replicate (2 - (lg_sl ([.ref (ad 65), .int a1])).length) Slot.unset).toArray = ls at hl ⊢
  have hl : lv_has ls 2 [(0, .ref (ad 65)), (1, .int a1)] := hl
  generalize hAe : xA ad a s.heap.size = A at B ⊢
  have L23 : ∀ (σ : zs) (v1 : Int32) (s0 : Int32) (H : Heap) (locs : List Loc) (ls : Array Slot), f_X9_log_23 σ v1 s0 = some (r, σ') → xB A s G ad σ H locs → lv_has ls 2 [(0, .ref (ad 65)), (1, .int v1)] → W p l e (headSpec wsX9_log rm_X9_log).room s m ([.ref (ad 65), .int a1] : List Value).toArray below meth c H locs 0 0 (MQ below (va_Qi (fun r' (u : xV) => r' = r ∧ xQ σ' u) (xPost G ad σ' A) A) ([.ref (ad 65), .int a1] : List Value).toArray s 0 0 A) (F0 m 23 ls [.int s0, .ref (ad 65)]) := by
    intro σ v1 s0 H locs ls hf B hl
    unfold f_X9_log_23 at hf
    refine x_puti hx hb hts hinRX9 hown tyX9 tyX9_ok nmX9 B 65 3 (by decide) (by decide) (fun _ => rfl) rfl rfl (by decide) (by decide +kernel) rfl rfl rfl rfl dX9_log_23 (fun H locs B => ?_)
    refine lv_aload_n hx hb dX9_log_26 rfl (lv_at hl 0 rfl) ?_
    refine x_geti hx hb hts hinRX9 hown B 65 3 (by decide) (fun _ => rfl) rfl rfl (by decide) (by decide +kernel) rfl dX9_log_27 ?_
    refine lv_if_ne (tgt := 45) hx hb dX9_log_30 (by decide) (fun hc => ?_) (fun hc => ?_)
    · have hf := zif_f hc hf
      refine lv_iconst (v := (0 : Int32)) hx hb dX9_log_45 (by decide) ?_
      refine W.widen (k := 0) (n := 0) (Nat.le_of_ble_eq_true rfl) (Nat.le_of_ble_eq_true rfl) ?_
      exact x_iret hx hb hr rfl hlocks B hf dX9_log_46
    · have hf := zif_t hc hf
      refine lv_aload_n hx hb dX9_log_33 rfl (lv_at hl 0 rfl) ?_
      refine x_getr hx hb hts hinRX9 hown B 65 0 66 (by decide) (by decide) (fun _ => rfl) rfl rfl (by decide) (by decide +kernel) rfl dX9_log_34 ?_
      refine lv_bipush (v := (7 : Int32)) hx hb dX9_log_37 (by decide) ?_
      refine lv_iload_n hx hb dX9_log_39 rfl (lv_at hl 1 rfl) ?_
      refine lv_iadd hx hb dX9_log_40 ?_
      obtain ⟨hg, hf⟩ := zg_some hf
      refine x_iald hx hb B 66 (by decide) (fun _ => rfl) (zin_ok hg) dX9_log_41 ?_
      refine lv_goto (tgt := 46) hx hb dX9_log_42 (by decide) ?_
      refine W.widen (k := 0) (n := 0) (Nat.le_of_ble_eq_true rfl) (Nat.le_of_ble_eq_true rfl) ?_
      exact x_iret hx hb hr rfl hlocks B hf dX9_log_46
  unfold f_X9_log at hf
  refine lv_aload_n hx hb dX9_log_0 rfl (lv_at hl 0 rfl) ?_
  refine lv_iload_n hx hb dX9_log_1 rfl (lv_at hl 1 rfl) ?_
  refine lv_iconst (v := (0 : Int32)) hx hb dX9_log_2 (by decide) ?_
  refine lv_aload_n hx hb dX9_log_3 rfl (lv_at hl 0 rfl) ?_
  refine x_getr hx hb hts hinRX9 hown B 65 0 66 (by decide) (by decide) (fun _ => rfl) rfl rfl (by decide) (by decide +kernel) rfl dX9_log_4 ?_
  refine lv_bipush (v := (6 : Int32)) hx hb dX9_log_7 (by decide) ?_
  obtain ⟨hg, hf⟩ := zg_some hf
  refine x_iald hx hb B 66 (by decide) (fun _ => rfl) (zin_ok hg) dX9_log_9 ?_
  refine lv_iconst (v := (1 : Int32)) hx hb dX9_log_10 (by decide) ?_
  refine lv_isub hx hb dX9_log_11 ?_
  obtain ⟨r2, σ3, hu1, hf⟩ := zb_some hf
  refine x_i B (fun nb a g hs Bz => va_runS (As := [.int a1, .int (0 : Int32), .int ((σ 66 (6 : Int32).toNatClampNeg) - (1 : Int32))]) (rest := [.ref (ad 65)]) ⟨hx, hb, hml, hown, hts⟩ (c_X9_isIn l hu1 _ nb a g hs) (va_cwS 3 hts gX9_log_X9_isIn rfl rfl rfl (by decide +kernel) ⟨Nat.le_of_ble_eq_true rfl, Nat.le_of_ble_eq_true rfl⟩) (z_preS Bz) rfl rfl hl.1 rfl (lv_room (Nat.le_of_ble_eq_true rfl)) dX9_log_12 ⟨Nat.le_of_ble_eq_true rfl, Nat.le_of_ble_eq_true rfl⟩) (fun H locs B => ?_)
  refine lv_if_eq (tgt := 22) hx hb dX9_log_15 (by decide) (fun hc => ?_) (fun hc => ?_)
  · have hf := zif_t hc hf
    refine lv_iconst (v := (1 : Int32)) hx hb dX9_log_22 (by decide) ?_
    exact L23  _ _ _ _ _ _ hf B (lv_sub hl [0, 1] rfl)
  · have hf := zif_f hc hf
    refine lv_iconst (v := (0 : Int32)) hx hb dX9_log_18 (by decide) ?_
    refine lv_goto (tgt := 23) hx hb dX9_log_19 (by decide) ?_
    exact L23  _ _ _ _ _ _ hf B (lv_sub hl [0, 1] rfl)
theorem dX9_logged_0 : decode cX9_logged 0 = .ok (.aload_n 0, 1) := by decide +kernel
theorem dX9_logged_1 : decode cX9_logged 1 = .ok (.iload_n 1, 1) := by decide +kernel
theorem dX9_logged_2 : decode cX9_logged 2 = .ok (.invokestatic 78, 3) := by decide +kernel
theorem dX9_logged_5 : decode cX9_logged 5 = .ok (.ifCond .eq 7, 3) := by decide +kernel
theorem dX9_logged_8 : decode cX9_logged 8 = .ok (.iconst 0, 1) := by decide +kernel
theorem dX9_logged_9 : decode cX9_logged 9 = .ok (.goto 4, 3) := by decide +kernel
theorem dX9_logged_12 : decode cX9_logged 12 = .ok (.iconst 1, 1) := by decide +kernel
theorem dX9_logged_13 : decode cX9_logged 13 = .ok (.putfield 41, 3) := by decide +kernel
theorem dX9_logged_16 : decode cX9_logged 16 = .ok (.iconst 0, 1) := by decide +kernel
theorem dX9_logged_17 : decode cX9_logged 17 = .ok (.istore_n 3, 1) := by decide +kernel
theorem dX9_logged_18 : decode cX9_logged 18 = .ok (.iconst 0, 1) := by decide +kernel
theorem dX9_logged_19 : decode cX9_logged 19 = .ok (.istore 4, 2) := by decide +kernel
theorem dX9_logged_21 : decode cX9_logged 21 = .ok (.aload_n 0, 1) := by decide +kernel
theorem dX9_logged_22 : decode cX9_logged 22 = .ok (.getfield 41, 3) := by decide +kernel
theorem dX9_logged_25 : decode cX9_logged 25 = .ok (.ifCond .ne 72, 3) := by decide +kernel
theorem dX9_logged_28 : decode cX9_logged 28 = .ok (.iload 4, 2) := by decide +kernel
theorem dX9_logged_30 : decode cX9_logged 30 = .ok (.aload_n 0, 1) := by decide +kernel
theorem dX9_logged_31 : decode cX9_logged 31 = .ok (.getfield 9, 3) := by decide +kernel
theorem dX9_logged_34 : decode cX9_logged 34 = .ok (.bipush 6, 2) := by decide +kernel
theorem dX9_logged_36 : decode cX9_logged 36 = .ok (.iaload, 1) := by decide +kernel
theorem dX9_logged_37 : decode cX9_logged 37 = .ok (.if_icmp .ge 60, 3) := by decide +kernel
theorem dX9_logged_40 : decode cX9_logged 40 = .ok (.iload_n 3, 1) := by decide +kernel
theorem dX9_logged_41 : decode cX9_logged 41 = .ok (.aload_n 0, 1) := by decide +kernel
theorem dX9_logged_42 : decode cX9_logged 42 = .ok (.getfield 9, 3) := by decide +kernel
theorem dX9_logged_45 : decode cX9_logged 45 = .ok (.bipush 7, 2) := by decide +kernel
theorem dX9_logged_47 : decode cX9_logged 47 = .ok (.iload 4, 2) := by decide +kernel
theorem dX9_logged_49 : decode cX9_logged 49 = .ok (.iadd, 1) := by decide +kernel
theorem dX9_logged_50 : decode cX9_logged 50 = .ok (.iaload, 1) := by decide +kernel
theorem dX9_logged_51 : decode cX9_logged 51 = .ok (.sipush 1000, 3) := by decide +kernel
theorem dX9_logged_54 : decode cX9_logged 54 = .ok (.idiv, 1) := by decide +kernel
theorem dX9_logged_55 : decode cX9_logged 55 = .ok (.iload_n 1, 1) := by decide +kernel
theorem dX9_logged_56 : decode cX9_logged 56 = .ok (.if_icmp .ne 32, 3) := by decide +kernel
theorem dX9_logged_59 : decode cX9_logged 59 = .ok (.aload_n 0, 1) := by decide +kernel
theorem dX9_logged_60 : decode cX9_logged 60 = .ok (.getfield 9, 3) := by decide +kernel
theorem dX9_logged_63 : decode cX9_logged 63 = .ok (.bipush 7, 2) := by decide +kernel
theorem dX9_logged_65 : decode cX9_logged 65 = .ok (.iload 4, 2) := by decide +kernel
theorem dX9_logged_67 : decode cX9_logged 67 = .ok (.iadd, 1) := by decide +kernel
theorem dX9_logged_68 : decode cX9_logged 68 = .ok (.iaload, 1) := by decide +kernel
theorem dX9_logged_69 : decode cX9_logged 69 = .ok (.bipush 10, 2) := by decide +kernel
theorem dX9_logged_71 : decode cX9_logged 71 = .ok (.irem, 1) := by decide +kernel
theorem dX9_logged_72 : decode cX9_logged 72 = .ok (.iload_n 2, 1) := by decide +kernel
theorem dX9_logged_73 : decode cX9_logged 73 = .ok (.ifCond .eq 7, 3) := by decide +kernel
theorem dX9_logged_76 : decode cX9_logged 76 = .ok (.iconst 1, 1) := by decide +kernel
theorem dX9_logged_77 : decode cX9_logged 77 = .ok (.goto 4, 3) := by decide +kernel
theorem dX9_logged_80 : decode cX9_logged 80 = .ok (.iconst 0, 1) := by decide +kernel
theorem dX9_logged_81 : decode cX9_logged 81 = .ok (.if_icmp .ne 7, 3) := by decide +kernel
theorem dX9_logged_84 : decode cX9_logged 84 = .ok (.iconst 1, 1) := by decide +kernel
theorem dX9_logged_85 : decode cX9_logged 85 = .ok (.goto 4, 3) := by decide +kernel
theorem dX9_logged_88 : decode cX9_logged 88 = .ok (.iconst 0, 1) := by decide +kernel
theorem dX9_logged_89 : decode cX9_logged 89 = .ok (.iadd, 1) := by decide +kernel
theorem dX9_logged_90 : decode cX9_logged 90 = .ok (.istore_n 3, 1) := by decide +kernel
theorem dX9_logged_91 : decode cX9_logged 91 = .ok (.iinc 4 1, 3) := by decide +kernel
theorem dX9_logged_94 : decode cX9_logged 94 = .ok (.goto (-73), 3) := by decide +kernel
theorem dX9_logged_97 : decode cX9_logged 97 = .ok (.iload_n 3, 1) := by decide +kernel
theorem dX9_logged_98 : decode cX9_logged 98 = .ok (.ireturn, 1) := by decide +kernel
set_option maxRecDepth 20000 in
theorem ggX9_logged_X9_isSubject : GoodIn wsX9_logged wsX9_isSubject := goodIn_r _ [6, 7, 8, 5, 9] (by decide +kernel) (by decide +kernel)
set_option maxRecDepth 20000 in
theorem gX9_logged_X9_isSubject : GoodIn wsX9_logged (va_wsS RX9 78 yX9_isSubject wsX9_isSubject) := goodIn_app (goodIn_of _ (by decide +kernel)) ggX9_logged_X9_isSubject
def rm_X9_logged : Room := { frames := 3, cells := 0, slots := 0, locals := 58 }
set_option maxHeartbeats 4000000 in
set_option maxRecDepth 100000 in
theorem c_X9_logged (l : Launch) {G : zG} {ad : Nat → Nat} {σ σ' : zs} {a1 a2 : Int32} {r : Int32} (hf : f_X9_logged σ a1 a2 = some (r, σ')) : xMi l yX9_logged wsX9_logged rm_X9_logged G ad σ [.ref (ad 65), .int a1, .int a2] r σ' := by
  intro sz nb a g hs
  refine Met.ofW (cc := cX9_logged) (maxL := 5) (ret := (some .int)) (by decide) rfl ?_
  intro p e s m args below meth c s₁ B hml hv
  obtain ⟨rfl, hsz, hv⟩ := hv
  have hx := B.exec
  have hb := B.bytes
  have hr := B.returns
  have hts := atoms_spec (ws := wsX9_logged) B.pre
  have hown : s.vm.findClass RX9 = some m.cls := findClass_of_methodNamed B.named
  have hlocks := B.notSynchronized
  subst hsz
  have B := xB_start hs hv
  have hinRX9 : ∀ w ∈ wsX90, w ∈ wsX9_logged := by decide +kernel
  have hl := lv_entry ([.ref (ad 65), .int a1, .int a2]) (n := 5) (Nat.le_of_ble_eq_true rfl)
  rw [lg_entry_eq]
  generalize (lg_sl ([.ref (ad 65), .int a1, .int a2]) ++ List.replicate (5 - (lg_sl ([.ref (ad 65), .int a1, .int a2])).length) Slot.unset).toArray = ls at hl ⊢
  have hl : lv_has ls 5 [(0, .ref (ad 65)), (1, .int a1), (2, .int a2)] := hl
  generalize hAe : xA ad a s.heap.size = A at B ⊢
  have L89 : ∀ (K21 : zs → Int32 → Int32 → Int32 → Int32 → Option (Int32 × zs)) (hK21 : ∀ (σ : zs) (v1 : Int32) (v2 : Int32) (v3 : Int32) (v4 : Int32) (H : Heap) (locs : List Loc) (ls : Array Slot), K21 σ v1 v2 v3 v4 = some (r, σ') → xB A s G ad σ H locs → lv_has ls 5 [(0, .ref (ad 65)), (1, .int v1), (2, .int v2), (3, .int v3), (4, .int v4)] → W p l e (headSpec wsX9_logged rm_X9_logged).room s m ([.ref (ad 65), .int a1, .int a2] : List Value).toArray below meth c H locs 0 0 (MQ below (va_Qi (fun r' (u : xV) => r' = r ∧ xQ σ' u) (xPost G ad σ' A) A) ([.ref (ad 65), .int a1, .int a2] : List Value).toArray s 0 0 A) (F0 m 21 ls [])) (σ : zs) (v1 : Int32) (v2 : Int32) (v4 : Int32) (s0 : Int32) (s1 : Int32) (H : Heap) (locs : List Loc) (ls : Array Slot), f_X9_logged_89 K21 σ v1 v2 v4 s0 s1 = some (r, σ') → xB A s G ad σ H locs → lv_has ls 5 [(0, .ref (ad 65)), (1, .int v1), (2, .int v2), (4, .int v4)] → W p l e (headSpec wsX9_logged rm_X9_logged).room s m ([.ref (ad 65), .int a1, .int a2] : List Value).toArray below meth c H locs 0 0 (MQ below (va_Qi (fun r' (u : xV) => r' = r ∧ xQ σ' u) (xPost G ad σ' A) A) ([.ref (ad 65), .int a1, .int a2] : List Value).toArray s 0 0 A) (F0 m 89 ls [.int s0, .int s1]) := by
    intro K21 hK21 σ v1 v2 v4 s0 s1 H locs ls hf B hl
    unfold f_X9_logged_89 at hf
    refine lv_iadd hx hb dX9_logged_89 ?_
    refine lv_istore_n (lv' := [(3, .int (s1 + s0)), (0, .ref (ad 65)), (1, .int v1), (2, .int v2), (4, .int v4)]) hx hb dX9_logged_90 rfl hl (by decide) rfl (fun ls hl => ?_)
    refine lv_iinc (v := (v4 + (1 : Int32))) (lv' := [(4, .int (v4 + (1 : Int32))), (3, .int (s1 + s0)), (0, .ref (ad 65)), (1, .int v1), (2, .int v2)]) hx hb dX9_logged_91 hl (k := 4) rfl (zc1 (by decide)) (by decide) rfl (fun ls hl => ?_)
    refine lv_goto (tgt := 21) hx hb dX9_logged_94 (by decide) ?_
    exact hK21 _ _ _ _ _ _ _ _ hf B (lv_sub hl [2, 3, 4, 1, 0] rfl)
  have L81 : ∀ (K21 : zs → Int32 → Int32 → Int32 → Int32 → Option (Int32 × zs)) (hK21 : ∀ (σ : zs) (v1 : Int32) (v2 : Int32) (v3 : Int32) (v4 : Int32) (H : Heap) (locs : List Loc) (ls : Array Slot), K21 σ v1 v2 v3 v4 = some (r, σ') → xB A s G ad σ H locs → lv_has ls 5 [(0, .ref (ad 65)), (1, .int v1), (2, .int v2), (3, .int v3), (4, .int v4)] → W p l e (headSpec wsX9_logged rm_X9_logged).room s m ([.ref (ad 65), .int a1, .int a2] : List Value).toArray below meth c H locs 0 0 (MQ below (va_Qi (fun r' (u : xV) => r' = r ∧ xQ σ' u) (xPost G ad σ' A) A) ([.ref (ad 65), .int a1, .int a2] : List Value).toArray s 0 0 A) (F0 m 21 ls [])) (σ : zs) (v1 : Int32) (v2 : Int32) (v4 : Int32) (s0 : Int32) (s1 : Int32) (s2 : Int32) (H : Heap) (locs : List Loc) (ls : Array Slot), f_X9_logged_81 K21 σ v1 v2 v4 s0 s1 s2 = some (r, σ') → xB A s G ad σ H locs → lv_has ls 5 [(0, .ref (ad 65)), (1, .int v1), (2, .int v2), (4, .int v4)] → W p l e (headSpec wsX9_logged rm_X9_logged).room s m ([.ref (ad 65), .int a1, .int a2] : List Value).toArray below meth c H locs 0 0 (MQ below (va_Qi (fun r' (u : xV) => r' = r ∧ xQ σ' u) (xPost G ad σ' A) A) ([.ref (ad 65), .int a1, .int a2] : List Value).toArray s 0 0 A) (F0 m 81 ls [.int s0, .int s1, .int s2]) := by
    intro K21 hK21 σ v1 v2 v4 s0 s1 s2 H locs ls hf B hl
    unfold f_X9_logged_81 at hf
    refine lv_icmp_ne (tgt := 88) hx hb dX9_logged_81 (by decide) (fun hc => ?_) (fun hc => ?_)
    · have hf := zif_f hc hf
      refine lv_iconst (v := (0 : Int32)) hx hb dX9_logged_88 (by decide) ?_
      exact L89 _ hK21  _ _ _ _ _ _ _ _ _ hf B (lv_sub hl [0, 1, 2, 3] rfl)
    · have hf := zif_t hc hf
      refine lv_iconst (v := (1 : Int32)) hx hb dX9_logged_84 (by decide) ?_
      refine lv_goto (tgt := 89) hx hb dX9_logged_85 (by decide) ?_
      exact L89 _ hK21  _ _ _ _ _ _ _ _ _ hf B (lv_sub hl [0, 1, 2, 3] rfl)
  have L21 : ∀ (n : Nat) (σ : zs) (v1 : Int32) (v2 : Int32) (v3 : Int32) (v4 : Int32) (H : Heap) (locs : List Loc) (ls : Array Slot), zlp4 (f_X9_logged_21) n σ v1 v2 v3 v4 = some (r, σ') → xB A s G ad σ H locs → lv_has ls 5 [(0, .ref (ad 65)), (1, .int v1), (2, .int v2), (3, .int v3), (4, .int v4)] → W p l e (headSpec wsX9_logged rm_X9_logged).room s m ([.ref (ad 65), .int a1, .int a2] : List Value).toArray below meth c H locs 0 0 (MQ below (va_Qi (fun r' (u : xV) => r' = r ∧ xQ σ' u) (xPost G ad σ' A) A) ([.ref (ad 65), .int a1, .int a2] : List Value).toArray s 0 0 A) (F0 m 21 ls []) := by
    intro n
    induction n with
    | zero =>
      intro σ v1 v2 v3 v4 H locs ls hf
      cases hf
    | succ n ih =>
      intro σ v1 v2 v3 v4 H locs ls hf B hl
      have hf : f_X9_logged_21 (zlp4 (f_X9_logged_21) n) σ v1 v2 v3 v4 = some (r, σ') := hf
      unfold f_X9_logged_21 at hf
      refine lv_aload_n hx hb dX9_logged_21 rfl (lv_at hl 0 rfl) ?_
      refine x_geti hx hb hts hinRX9 hown B 65 3 (by decide) (fun _ => rfl) rfl rfl (by decide) (by decide +kernel) rfl dX9_logged_22 ?_
      refine lv_if_ne (tgt := 97) hx hb dX9_logged_25 (by decide) (fun hc => ?_) (fun hc => ?_)
      · have hf := zif_f hc hf
        refine lv_iload_n hx hb dX9_logged_97 rfl (lv_at hl 3 rfl) ?_
        refine W.widen (k := 0) (n := 0) (Nat.le_of_ble_eq_true rfl) (Nat.le_of_ble_eq_true rfl) ?_
        exact x_iret hx hb hr rfl hlocks B hf dX9_logged_98
      · have hf := zif_t hc hf
        refine lv_iload hx hb dX9_logged_28 (lv_at hl 4 rfl) ?_
        refine lv_aload_n hx hb dX9_logged_30 rfl (lv_at hl 0 rfl) ?_
        refine x_getr hx hb hts hinRX9 hown B 65 0 66 (by decide) (by decide) (fun _ => rfl) rfl rfl (by decide) (by decide +kernel) rfl dX9_logged_31 ?_
        refine lv_bipush (v := (6 : Int32)) hx hb dX9_logged_34 (by decide) ?_
        obtain ⟨hg, hf⟩ := zg_some hf
        refine x_iald hx hb B 66 (by decide) (fun _ => rfl) (zin_ok hg) dX9_logged_36 ?_
        refine lv_icmp_ge (tgt := 97) hx hb dX9_logged_37 (by decide) (fun hc => ?_) (fun hc => ?_)
        · have hf := zif_t hc hf
          refine lv_iload_n hx hb dX9_logged_97 rfl (lv_at hl 3 rfl) ?_
          refine W.widen (k := 0) (n := 0) (Nat.le_of_ble_eq_true rfl) (Nat.le_of_ble_eq_true rfl) ?_
          exact x_iret hx hb hr rfl hlocks B hf dX9_logged_98
        · have hf := zif_f hc hf
          refine lv_iload_n hx hb dX9_logged_40 rfl (lv_at hl 3 rfl) ?_
          refine lv_aload_n hx hb dX9_logged_41 rfl (lv_at hl 0 rfl) ?_
          refine x_getr hx hb hts hinRX9 hown B 65 0 66 (by decide) (by decide) (fun _ => rfl) rfl rfl (by decide) (by decide +kernel) rfl dX9_logged_42 ?_
          refine lv_bipush (v := (7 : Int32)) hx hb dX9_logged_45 (by decide) ?_
          refine lv_iload hx hb dX9_logged_47 (lv_at hl 4 rfl) ?_
          refine lv_iadd hx hb dX9_logged_49 ?_
          obtain ⟨hg, hf⟩ := zg_some hf
          refine x_iald hx hb B 66 (by decide) (fun _ => rfl) (zin_ok hg) dX9_logged_50 ?_
          refine lv_sipush (v := (1000 : Int32)) hx hb dX9_logged_51 (by decide) ?_
          refine lv_idiv hx hb dX9_logged_54 (by decide) ?_
          refine lv_iload_n hx hb dX9_logged_55 rfl (lv_at hl 1 rfl) ?_
          refine lv_icmp_ne (tgt := 88) hx hb dX9_logged_56 (by decide) (fun hc => ?_) (fun hc => ?_)
          · have hf := zif_f hc hf
            refine lv_iconst (v := (0 : Int32)) hx hb dX9_logged_88 (by decide) ?_
            exact L89 _ ih  _ _ _ _ _ _ _ _ _ hf B (lv_sub hl [0, 1, 2, 4] rfl)
          · have hf := zif_t hc hf
            refine lv_aload_n hx hb dX9_logged_59 rfl (lv_at hl 0 rfl) ?_
            refine x_getr hx hb hts hinRX9 hown B 65 0 66 (by decide) (by decide) (fun _ => rfl) rfl rfl (by decide) (by decide +kernel) rfl dX9_logged_60 ?_
            refine lv_bipush (v := (7 : Int32)) hx hb dX9_logged_63 (by decide) ?_
            refine lv_iload hx hb dX9_logged_65 (lv_at hl 4 rfl) ?_
            refine lv_iadd hx hb dX9_logged_67 ?_
            obtain ⟨hg, hf⟩ := zg_some hf
            refine x_iald hx hb B 66 (by decide) (fun _ => rfl) (zin_ok hg) dX9_logged_68 ?_
            refine lv_bipush (v := (10 : Int32)) hx hb dX9_logged_69 (by decide) ?_
            refine lv_irem hx hb dX9_logged_71 (by decide) ?_
            refine lv_iload_n hx hb dX9_logged_72 rfl (lv_at hl 2 rfl) ?_
            refine lv_if_eq (tgt := 80) hx hb dX9_logged_73 (by decide) (fun hc => ?_) (fun hc => ?_)
            · have hf := zif_t hc hf
              refine lv_iconst (v := (0 : Int32)) hx hb dX9_logged_80 (by decide) ?_
              exact L81 _ ih  _ _ _ _ _ _ _ _ _ _ hf B (lv_sub hl [0, 1, 2, 4] rfl)
            · have hf := zif_f hc hf
              refine lv_iconst (v := (1 : Int32)) hx hb dX9_logged_76 (by decide) ?_
              refine lv_goto (tgt := 81) hx hb dX9_logged_77 (by decide) ?_
              exact L81 _ ih  _ _ _ _ _ _ _ _ _ _ hf B (lv_sub hl [0, 1, 2, 4] rfl)
  have L13 : ∀ (σ : zs) (v1 : Int32) (v2 : Int32) (s0 : Int32) (H : Heap) (locs : List Loc) (ls : Array Slot), f_X9_logged_13 σ v1 v2 s0 = some (r, σ') → xB A s G ad σ H locs → lv_has ls 5 [(0, .ref (ad 65)), (1, .int v1), (2, .int v2)] → W p l e (headSpec wsX9_logged rm_X9_logged).room s m ([.ref (ad 65), .int a1, .int a2] : List Value).toArray below meth c H locs 0 0 (MQ below (va_Qi (fun r' (u : xV) => r' = r ∧ xQ σ' u) (xPost G ad σ' A) A) ([.ref (ad 65), .int a1, .int a2] : List Value).toArray s 0 0 A) (F0 m 13 ls [.int s0, .ref (ad 65)]) := by
    intro σ v1 v2 s0 H locs ls hf B hl
    unfold f_X9_logged_13 at hf
    refine x_puti hx hb hts hinRX9 hown tyX9 tyX9_ok nmX9 B 65 3 (by decide) (by decide) (fun _ => rfl) rfl rfl (by decide) (by decide +kernel) rfl rfl rfl rfl dX9_logged_13 (fun H locs B => ?_)
    refine lv_iconst (v := (0 : Int32)) hx hb dX9_logged_16 (by decide) ?_
    refine lv_istore_n (lv' := [(3, .int (0 : Int32)), (0, .ref (ad 65)), (1, .int v1), (2, .int v2)]) hx hb dX9_logged_17 rfl hl (by decide) rfl (fun ls hl => ?_)
    refine lv_iconst (v := (0 : Int32)) hx hb dX9_logged_18 (by decide) ?_
    refine lv_istore (lv' := [(4, .int (0 : Int32)), (3, .int (0 : Int32)), (0, .ref (ad 65)), (1, .int v1), (2, .int v2)]) hx hb dX9_logged_19 hl (by decide) rfl (fun ls hl => ?_)
    exact L21  _ _ _ _ _ _ _ _ _ hf B (lv_sub hl [2, 3, 4, 1, 0] rfl)
  unfold f_X9_logged at hf
  refine lv_aload_n hx hb dX9_logged_0 rfl (lv_at hl 0 rfl) ?_
  refine lv_iload_n hx hb dX9_logged_1 rfl (lv_at hl 1 rfl) ?_
  obtain ⟨r2, σ3, hu1, hf⟩ := zb_some hf
  refine x_i B (fun nb a g hs Bz => va_runS (As := [.int a1]) (rest := [.ref (ad 65)]) ⟨hx, hb, hml, hown, hts⟩ (c_X9_isSubject l hu1 _ nb a g hs) (va_cwS 1 hts gX9_logged_X9_isSubject rfl rfl rfl (by decide +kernel) ⟨Nat.le_of_ble_eq_true rfl, Nat.le_of_ble_eq_true rfl⟩) (z_preS Bz) rfl rfl hl.1 rfl (lv_room (Nat.le_of_ble_eq_true rfl)) dX9_logged_2 ⟨Nat.le_of_ble_eq_true rfl, Nat.le_of_ble_eq_true rfl⟩) (fun H locs B => ?_)
  refine lv_if_eq (tgt := 12) hx hb dX9_logged_5 (by decide) (fun hc => ?_) (fun hc => ?_)
  · have hf := zif_t hc hf
    refine lv_iconst (v := (1 : Int32)) hx hb dX9_logged_12 (by decide) ?_
    exact L13  _ _ _ _ _ _ _ hf B (lv_sub hl [0, 1, 2] rfl)
  · have hf := zif_f hc hf
    refine lv_iconst (v := (0 : Int32)) hx hb dX9_logged_8 (by decide) ?_
    refine lv_goto (tgt := 13) hx hb dX9_logged_9 (by decide) ?_
    exact L13  _ _ _ _ _ _ _ hf B (lv_sub hl [0, 1, 2] rfl)
theorem dX9_levels_0 : decode cX9_levels 0 = .ok (.aload_n 0, 1) := by decide +kernel
theorem dX9_levels_1 : decode cX9_levels 1 = .ok (.iconst 0, 1) := by decide +kernel
theorem dX9_levels_2 : decode cX9_levels 2 = .ok (.putfield 41, 3) := by decide +kernel
theorem dX9_levels_5 : decode cX9_levels 5 = .ok (.aload_n 0, 1) := by decide +kernel
theorem dX9_levels_6 : decode cX9_levels 6 = .ok (.getfield 48, 3) := by decide +kernel
theorem dX9_levels_9 : decode cX9_levels 9 = .ok (.ireturn, 1) := by decide +kernel
def rm_X9_levels : Room := { frames := 1, cells := 0, slots := 0, locals := 16 }
set_option maxHeartbeats 4000000 in
set_option maxRecDepth 100000 in
theorem c_X9_levels (l : Launch) {G : zG} {ad : Nat → Nat} {σ σ' : zs} {r : Int32} (hf : f_X9_levels σ  = some (r, σ')) : xMi l yX9_levels wsX9_levels rm_X9_levels G ad σ [.ref (ad 65)] r σ' := by
  intro sz nb a g hs
  refine Met.ofW (cc := cX9_levels) (maxL := 1) (ret := (some .int)) (by decide) rfl ?_
  intro p e s m args below meth c s₁ B hml hv
  obtain ⟨rfl, hsz, hv⟩ := hv
  have hx := B.exec
  have hb := B.bytes
  have hr := B.returns
  have hts := atoms_spec (ws := wsX9_levels) B.pre
  have hown : s.vm.findClass RX9 = some m.cls := findClass_of_methodNamed B.named
  have hlocks := B.notSynchronized
  subst hsz
  have B := xB_start hs hv
  have hinRX9 : ∀ w ∈ wsX90, w ∈ wsX9_levels := by decide +kernel
  have hl := lv_entry ([.ref (ad 65)]) (n := 1) (Nat.le_of_ble_eq_true rfl)
  rw [lg_entry_eq]
  generalize (lg_sl ([.ref (ad 65)]) ++ List.replicate (1 - (lg_sl ([.ref (ad 65)])).length) Slot.unset).toArray = ls at hl ⊢
  have hl : lv_has ls 1 [(0, .ref (ad 65))] := hl
  generalize hAe : xA ad a s.heap.size = A at B ⊢
  unfold f_X9_levels at hf
  refine lv_aload_n hx hb dX9_levels_0 rfl (lv_at hl 0 rfl) ?_
  refine lv_iconst (v := (0 : Int32)) hx hb dX9_levels_1 (by decide) ?_
  refine x_puti hx hb hts hinRX9 hown tyX9 tyX9_ok nmX9 B 65 3 (by decide) (by decide) (fun _ => rfl) rfl rfl (by decide) (by decide +kernel) rfl rfl rfl rfl dX9_levels_2 (fun H locs B => ?_)
  refine lv_aload_n hx hb dX9_levels_5 rfl (lv_at hl 0 rfl) ?_
  refine x_geti hx hb hts hinRX9 hown B 65 10 (by decide) (fun _ => rfl) rfl rfl (by decide) (by decide +kernel) rfl dX9_levels_6 ?_
  refine W.widen (k := 0) (n := 0) (Nat.le_of_ble_eq_true rfl) (Nat.le_of_ble_eq_true rfl) ?_
  exact x_iret hx hb hr rfl hlocks B hf dX9_levels_9
theorem dX9_report_0 : decode cX9_report 0 = .ok (.aload_n 0, 1) := by decide +kernel
theorem dX9_report_1 : decode cX9_report 1 = .ok (.iload_n 1, 1) := by decide +kernel
theorem dX9_report_2 : decode cX9_report 2 = .ok (.iconst 0, 1) := by decide +kernel
theorem dX9_report_3 : decode cX9_report 3 = .ok (.aload_n 0, 1) := by decide +kernel
theorem dX9_report_4 : decode cX9_report 4 = .ok (.getfield 48, 3) := by decide +kernel
theorem dX9_report_7 : decode cX9_report 7 = .ok (.iconst 1, 1) := by decide +kernel
theorem dX9_report_8 : decode cX9_report 8 = .ok (.isub, 1) := by decide +kernel
theorem dX9_report_9 : decode cX9_report 9 = .ok (.invokestatic 44, 3) := by decide +kernel
theorem dX9_report_12 : decode cX9_report 12 = .ok (.ifCond .ne 7, 3) := by decide +kernel
theorem dX9_report_15 : decode cX9_report 15 = .ok (.iconst 1, 1) := by decide +kernel
theorem dX9_report_16 : decode cX9_report 16 = .ok (.goto 17, 3) := by decide +kernel
theorem dX9_report_19 : decode cX9_report 19 = .ok (.iload_n 2, 1) := by decide +kernel
theorem dX9_report_20 : decode cX9_report 20 = .ok (.iconst 0, 1) := by decide +kernel
theorem dX9_report_21 : decode cX9_report 21 = .ok (.iconst 1, 1) := by decide +kernel
theorem dX9_report_22 : decode cX9_report 22 = .ok (.invokestatic 44, 3) := by decide +kernel
theorem dX9_report_25 : decode cX9_report 25 = .ok (.ifCond .eq 7, 3) := by decide +kernel
theorem dX9_report_28 : decode cX9_report 28 = .ok (.iconst 0, 1) := by decide +kernel
theorem dX9_report_29 : decode cX9_report 29 = .ok (.goto 4, 3) := by decide +kernel
theorem dX9_report_32 : decode cX9_report 32 = .ok (.iconst 2, 1) := by decide +kernel
theorem dX9_report_33 : decode cX9_report 33 = .ok (.putfield 41, 3) := by decide +kernel
theorem dX9_report_36 : decode cX9_report 36 = .ok (.aload_n 0, 1) := by decide +kernel
theorem dX9_report_37 : decode cX9_report 37 = .ok (.getfield 41, 3) := by decide +kernel
theorem dX9_report_40 : decode cX9_report 40 = .ok (.ifCond .eq 7, 3) := by decide +kernel
theorem dX9_report_43 : decode cX9_report 43 = .ok (.iconst 0, 1) := by decide +kernel
theorem dX9_report_44 : decode cX9_report 44 = .ok (.goto 22, 3) := by decide +kernel
theorem dX9_report_47 : decode cX9_report 47 = .ok (.iload_n 2, 1) := by decide +kernel
theorem dX9_report_48 : decode cX9_report 48 = .ok (.ifCond .ne 12, 3) := by decide +kernel
theorem dX9_report_51 : decode cX9_report 51 = .ok (.aload_n 0, 1) := by decide +kernel
theorem dX9_report_52 : decode cX9_report 52 = .ok (.getfield 26, 3) := by decide +kernel
theorem dX9_report_55 : decode cX9_report 55 = .ok (.iload_n 1, 1) := by decide +kernel
theorem dX9_report_56 : decode cX9_report 56 = .ok (.iaload, 1) := by decide +kernel
theorem dX9_report_57 : decode cX9_report 57 = .ok (.goto 9, 3) := by decide +kernel
theorem dX9_report_60 : decode cX9_report 60 = .ok (.aload_n 0, 1) := by decide +kernel
theorem dX9_report_61 : decode cX9_report 61 = .ok (.getfield 29, 3) := by decide +kernel
theorem dX9_report_64 : decode cX9_report 64 = .ok (.iload_n 1, 1) := by decide +kernel
theorem dX9_report_65 : decode cX9_report 65 = .ok (.iaload, 1) := by decide +kernel
theorem dX9_report_66 : decode cX9_report 66 = .ok (.ireturn, 1) := by decide +kernel
set_option maxRecDepth 20000 in
theorem ggX9_report_X9_isIn : GoodIn wsX9_report wsX9_isIn := goodIn_r _ [8] (by decide +kernel) (by decide +kernel)
set_option maxRecDepth 20000 in
theorem gX9_report_X9_isIn : GoodIn wsX9_report (va_wsS RX9 44 yX9_isIn wsX9_isIn) := goodIn_app (goodIn_of _ (by decide +kernel)) ggX9_report_X9_isIn
def rm_X9_report : Room := { frames := 2, cells := 0, slots := 0, locals := 38 }
set_option maxHeartbeats 4000000 in
set_option maxRecDepth 100000 in
theorem c_X9_report (l : Launch) {G : zG} {ad : Nat → Nat} {σ σ' : zs} {a1 a2 : Int32} {r : Int32} (hf : f_X9_report σ a1 a2 = some (r, σ')) : xMi l yX9_report wsX9_report rm_X9_report G ad σ [.ref (ad 65), .int a1, .int a2] r σ' := by
  intro sz nb a g hs
  refine Met.ofW (cc := cX9_report) (maxL := 3) (ret := (some .int)) (by decide) rfl ?_
  intro p e s m args below meth c s₁ B hml hv
  obtain ⟨rfl, hsz, hv⟩ := hv
  have hx := B.exec
  have hb := B.bytes
  have hr := B.returns
  have hts := atoms_spec (ws := wsX9_report) B.pre
  have hown : s.vm.findClass RX9 = some m.cls := findClass_of_methodNamed B.named
  have hlocks := B.notSynchronized
  subst hsz
  have B := xB_start hs hv
  have hinRX9 : ∀ w ∈ wsX90, w ∈ wsX9_report := by decide +kernel
  have hl := lv_entry ([.ref (ad 65), .int a1, .int a2]) (n := 3) (Nat.le_of_ble_eq_true rfl)
  rw [lg_entry_eq]
  generalize (lg_sl ([.ref (ad 65), .int a1, .int a2]) ++ List.replicate (3 - (lg_sl ([.ref (ad 65), .int a1, .int a2])).length) Slot.unset).toArray = ls at hl ⊢
  have hl : lv_has ls 3 [(0, .ref (ad 65)), (1, .int a1), (2, .int a2)] := hl
  generalize hAe : xA ad a s.heap.size = A at B ⊢
  have L33 : ∀ (σ : zs) (v1 : Int32) (v2 : Int32) (s0 : Int32) (H : Heap) (locs : List Loc) (ls : Array Slot), f_X9_report_33 σ v1 v2 s0 = some (r, σ') → xB A s G ad σ H locs → lv_has ls 3 [(0, .ref (ad 65)), (1, .int v1), (2, .int v2)] → W p l e (headSpec wsX9_report rm_X9_report).room s m ([.ref (ad 65), .int a1, .int a2] : List Value).toArray below meth c H locs 0 0 (MQ below (va_Qi (fun r' (u : xV) => r' = r ∧ xQ σ' u) (xPost G ad σ' A) A) ([.ref (ad 65), .int a1, .int a2] : List Value).toArray s 0 0 A) (F0 m 33 ls [.int s0, .ref (ad 65)]) := by
    intro σ v1 v2 s0 H locs ls hf B hl
    unfold f_X9_report_33 at hf
    refine x_puti hx hb hts hinRX9 hown tyX9 tyX9_ok nmX9 B 65 3 (by decide) (by decide) (fun _ => rfl) rfl rfl (by decide) (by decide +kernel) rfl rfl rfl rfl dX9_report_33 (fun H locs B => ?_)
    refine lv_aload_n hx hb dX9_report_36 rfl (lv_at hl 0 rfl) ?_
    refine x_geti hx hb hts hinRX9 hown B 65 3 (by decide) (fun _ => rfl) rfl rfl (by decide) (by decide +kernel) rfl dX9_report_37 ?_
    refine lv_if_eq (tgt := 47) hx hb dX9_report_40 (by decide) (fun hc => ?_) (fun hc => ?_)
    · have hf := zif_t hc hf
      refine lv_iload_n hx hb dX9_report_47 rfl (lv_at hl 2 rfl) ?_
      refine lv_if_ne (tgt := 60) hx hb dX9_report_48 (by decide) (fun hc => ?_) (fun hc => ?_)
      · have hf := zif_f hc hf
        refine lv_aload_n hx hb dX9_report_60 rfl (lv_at hl 0 rfl) ?_
        refine x_getr hx hb hts hinRX9 hown B 65 9 71 (by decide) (by decide) (fun _ => rfl) rfl rfl (by decide) (by decide +kernel) rfl dX9_report_61 ?_
        refine lv_iload_n hx hb dX9_report_64 rfl (lv_at hl 1 rfl) ?_
        obtain ⟨hg, hf⟩ := zg_some hf
        refine x_iald hx hb B 71 (by decide) (fun _ => rfl) (zin_ok hg) dX9_report_65 ?_
        refine W.widen (k := 0) (n := 0) (Nat.le_of_ble_eq_true rfl) (Nat.le_of_ble_eq_true rfl) ?_
        exact x_iret hx hb hr rfl hlocks B hf dX9_report_66
      · have hf := zif_t hc hf
        refine lv_aload_n hx hb dX9_report_51 rfl (lv_at hl 0 rfl) ?_
        refine x_getr hx hb hts hinRX9 hown B 65 8 70 (by decide) (by decide) (fun _ => rfl) rfl rfl (by decide) (by decide +kernel) rfl dX9_report_52 ?_
        refine lv_iload_n hx hb dX9_report_55 rfl (lv_at hl 1 rfl) ?_
        obtain ⟨hg, hf⟩ := zg_some hf
        refine x_iald hx hb B 70 (by decide) (fun _ => rfl) (zin_ok hg) dX9_report_56 ?_
        refine lv_goto (tgt := 66) hx hb dX9_report_57 (by decide) ?_
        refine W.widen (k := 0) (n := 0) (Nat.le_of_ble_eq_true rfl) (Nat.le_of_ble_eq_true rfl) ?_
        exact x_iret hx hb hr rfl hlocks B hf dX9_report_66
    · have hf := zif_f hc hf
      refine lv_iconst (v := (0 : Int32)) hx hb dX9_report_43 (by decide) ?_
      refine lv_goto (tgt := 66) hx hb dX9_report_44 (by decide) ?_
      refine W.widen (k := 0) (n := 0) (Nat.le_of_ble_eq_true rfl) (Nat.le_of_ble_eq_true rfl) ?_
      exact x_iret hx hb hr rfl hlocks B hf dX9_report_66
  unfold f_X9_report at hf
  refine lv_aload_n hx hb dX9_report_0 rfl (lv_at hl 0 rfl) ?_
  refine lv_iload_n hx hb dX9_report_1 rfl (lv_at hl 1 rfl) ?_
  refine lv_iconst (v := (0 : Int32)) hx hb dX9_report_2 (by decide) ?_
  refine lv_aload_n hx hb dX9_report_3 rfl (lv_at hl 0 rfl) ?_
  refine x_geti hx hb hts hinRX9 hown B 65 10 (by decide) (fun _ => rfl) rfl rfl (by decide) (by decide +kernel) rfl dX9_report_4 ?_
  refine lv_iconst (v := (1 : Int32)) hx hb dX9_report_7 (by decide) ?_
  refine lv_isub hx hb dX9_report_8 ?_
  obtain ⟨r2, σ3, hu1, hf⟩ := zb_some hf
  refine x_i B (fun nb a g hs Bz => va_runS (As := [.int a1, .int (0 : Int32), .int ((σ 65 10) - (1 : Int32))]) (rest := [.ref (ad 65)]) ⟨hx, hb, hml, hown, hts⟩ (c_X9_isIn l hu1 _ nb a g hs) (va_cwS 3 hts gX9_report_X9_isIn rfl rfl rfl (by decide +kernel) ⟨Nat.le_of_ble_eq_true rfl, Nat.le_of_ble_eq_true rfl⟩) (z_preS Bz) rfl rfl hl.1 rfl (lv_room (Nat.le_of_ble_eq_true rfl)) dX9_report_9 ⟨Nat.le_of_ble_eq_true rfl, Nat.le_of_ble_eq_true rfl⟩) (fun H locs B => ?_)
  refine lv_if_ne (tgt := 19) hx hb dX9_report_12 (by decide) (fun hc => ?_) (fun hc => ?_)
  · have hf := zif_f hc hf
    refine lv_iload_n hx hb dX9_report_19 rfl (lv_at hl 2 rfl) ?_
    refine lv_iconst (v := (0 : Int32)) hx hb dX9_report_20 (by decide) ?_
    refine lv_iconst (v := (1 : Int32)) hx hb dX9_report_21 (by decide) ?_
    obtain ⟨r5, σ6, hu4, hf⟩ := zb_some hf
    refine x_i B (fun nb a g hs Bz => va_runS (As := [.int a2, .int (0 : Int32), .int (1 : Int32)]) (rest := [.ref (ad 65)]) ⟨hx, hb, hml, hown, hts⟩ (c_X9_isIn l hu4 _ nb a g hs) (va_cwS 3 hts gX9_report_X9_isIn rfl rfl rfl (by decide +kernel) ⟨Nat.le_of_ble_eq_true rfl, Nat.le_of_ble_eq_true rfl⟩) (z_preS Bz) rfl rfl hl.1 rfl (lv_room (Nat.le_of_ble_eq_true rfl)) dX9_report_22 ⟨Nat.le_of_ble_eq_true rfl, Nat.le_of_ble_eq_true rfl⟩) (fun H locs B => ?_)
    refine lv_if_eq (tgt := 32) hx hb dX9_report_25 (by decide) (fun hc => ?_) (fun hc => ?_)
    · have hf := zif_t hc hf
      refine lv_iconst (v := (2 : Int32)) hx hb dX9_report_32 (by decide) ?_
      exact L33  _ _ _ _ _ _ _ hf B (lv_sub hl [0, 1, 2] rfl)
    · have hf := zif_f hc hf
      refine lv_iconst (v := (0 : Int32)) hx hb dX9_report_28 (by decide) ?_
      refine lv_goto (tgt := 33) hx hb dX9_report_29 (by decide) ?_
      exact L33  _ _ _ _ _ _ _ hf B (lv_sub hl [0, 1, 2] rfl)
  · have hf := zif_t hc hf
    refine lv_iconst (v := (1 : Int32)) hx hb dX9_report_15 (by decide) ?_
    refine lv_goto (tgt := 33) hx hb dX9_report_16 (by decide) ?_
    exact L33  _ _ _ _ _ _ _ hf B (lv_sub hl [0, 1, 2] rfl)
theorem dX9_isPair_0 : decode cX9_isPair 0 = .ok (.iload_n 1, 1) := by decide +kernel
theorem dX9_isPair_1 : decode cX9_isPair 1 = .ok (.iconst 0, 1) := by decide +kernel
theorem dX9_isPair_2 : decode cX9_isPair 2 = .ok (.aload_n 0, 1) := by decide +kernel
theorem dX9_isPair_3 : decode cX9_isPair 3 = .ok (.getfield 9, 3) := by decide +kernel
theorem dX9_isPair_6 : decode cX9_isPair 6 = .ok (.iconst 2, 1) := by decide +kernel
theorem dX9_isPair_7 : decode cX9_isPair 7 = .ok (.iaload, 1) := by decide +kernel
theorem dX9_isPair_8 : decode cX9_isPair 8 = .ok (.iconst 1, 1) := by decide +kernel
theorem dX9_isPair_9 : decode cX9_isPair 9 = .ok (.isub, 1) := by decide +kernel
theorem dX9_isPair_10 : decode cX9_isPair 10 = .ok (.invokestatic 44, 3) := by decide +kernel
theorem dX9_isPair_13 : decode cX9_isPair 13 = .ok (.ireturn, 1) := by decide +kernel
set_option maxRecDepth 20000 in
theorem ggX9_isPair_X9_isIn : GoodIn wsX9_isPair wsX9_isIn := goodIn_r _ [5] (by decide +kernel) (by decide +kernel)
set_option maxRecDepth 20000 in
theorem gX9_isPair_X9_isIn : GoodIn wsX9_isPair (va_wsS RX9 44 yX9_isIn wsX9_isIn) := goodIn_app (goodIn_of _ (by decide +kernel)) ggX9_isPair_X9_isIn
def rm_X9_isPair : Room := { frames := 2, cells := 0, slots := 0, locals := 38 }
set_option maxHeartbeats 4000000 in
set_option maxRecDepth 100000 in
theorem c_X9_isPair (l : Launch) {G : zG} {ad : Nat → Nat} {σ σ' : zs} {a1 : Int32} {r : Int32} (hf : f_X9_isPair σ a1 = some (r, σ')) : xMi l yX9_isPair wsX9_isPair rm_X9_isPair G ad σ [.ref (ad 65), .int a1] r σ' := by
  intro sz nb a g hs
  refine Met.ofW (cc := cX9_isPair) (maxL := 2) (ret := (some .boolean)) (by decide) rfl ?_
  intro p e s m args below meth c s₁ B hml hv
  obtain ⟨rfl, hsz, hv⟩ := hv
  have hx := B.exec
  have hb := B.bytes
  have hr := B.returns
  have hts := atoms_spec (ws := wsX9_isPair) B.pre
  have hown : s.vm.findClass RX9 = some m.cls := findClass_of_methodNamed B.named
  have hlocks := B.notSynchronized
  subst hsz
  have B := xB_start hs hv
  have hinRX9 : ∀ w ∈ wsX90, w ∈ wsX9_isPair := by decide +kernel
  have hl := lv_entry ([.ref (ad 65), .int a1]) (n := 2) (Nat.le_of_ble_eq_true rfl)
  rw [lg_entry_eq]
  generalize (lg_sl ([.ref (ad 65), .int a1]) ++ List.replicate (2 - (lg_sl ([.ref (ad 65), .int a1])).length) Slot.unset).toArray = ls at hl ⊢
  have hl : lv_has ls 2 [(0, .ref (ad 65)), (1, .int a1)] := hl
  generalize hAe : xA ad a s.heap.size = A at B ⊢
  unfold f_X9_isPair at hf
  refine lv_iload_n hx hb dX9_isPair_0 rfl (lv_at hl 1 rfl) ?_
  refine lv_iconst (v := (0 : Int32)) hx hb dX9_isPair_1 (by decide) ?_
  refine lv_aload_n hx hb dX9_isPair_2 rfl (lv_at hl 0 rfl) ?_
  refine x_getr hx hb hts hinRX9 hown B 65 0 66 (by decide) (by decide) (fun _ => rfl) rfl rfl (by decide) (by decide +kernel) rfl dX9_isPair_3 ?_
  refine lv_iconst (v := (2 : Int32)) hx hb dX9_isPair_6 (by decide) ?_
  obtain ⟨hg, hf⟩ := zg_some hf
  refine x_iald hx hb B 66 (by decide) (fun _ => rfl) (zin_ok hg) dX9_isPair_7 ?_
  refine lv_iconst (v := (1 : Int32)) hx hb dX9_isPair_8 (by decide) ?_
  refine lv_isub hx hb dX9_isPair_9 ?_
  obtain ⟨r2, σ3, hu1, hf⟩ := zb_some hf
  refine x_i B (fun nb a g hs Bz => va_runS (As := [.int a1, .int (0 : Int32), .int ((σ 66 (2 : Int32).toNatClampNeg) - (1 : Int32))]) (rest := []) ⟨hx, hb, hml, hown, hts⟩ (c_X9_isIn l hu1 _ nb a g hs) (va_cwS 3 hts gX9_isPair_X9_isIn rfl rfl rfl (by decide +kernel) ⟨Nat.le_of_ble_eq_true rfl, Nat.le_of_ble_eq_true rfl⟩) (z_preS Bz) rfl rfl hl.1 rfl (lv_room (Nat.le_of_ble_eq_true rfl)) dX9_isPair_10 ⟨Nat.le_of_ble_eq_true rfl, Nat.le_of_ble_eq_true rfl⟩) (fun H locs B => ?_)
  obtain ⟨hg, hf⟩ := zg_some hf
  refine W.widen (k := 0) (n := 0) (Nat.le_of_ble_eq_true rfl) (Nat.le_of_ble_eq_true rfl) ?_
  exact x_iret hx hb hr (znz hg) hlocks B hf dX9_isPair_13
theorem dX9_isBox_0 : decode cX9_isBox 0 = .ok (.iload_n 1, 1) := by decide +kernel
theorem dX9_isBox_1 : decode cX9_isBox 1 = .ok (.iconst 0, 1) := by decide +kernel
theorem dX9_isBox_2 : decode cX9_isBox 2 = .ok (.aload_n 0, 1) := by decide +kernel
theorem dX9_isBox_3 : decode cX9_isBox 3 = .ok (.getfield 9, 3) := by decide +kernel
theorem dX9_isBox_6 : decode cX9_isBox 6 = .ok (.iconst 3, 1) := by decide +kernel
theorem dX9_isBox_7 : decode cX9_isBox 7 = .ok (.iaload, 1) := by decide +kernel
theorem dX9_isBox_8 : decode cX9_isBox 8 = .ok (.iconst 1, 1) := by decide +kernel
theorem dX9_isBox_9 : decode cX9_isBox 9 = .ok (.isub, 1) := by decide +kernel
theorem dX9_isBox_10 : decode cX9_isBox 10 = .ok (.invokestatic 44, 3) := by decide +kernel
theorem dX9_isBox_13 : decode cX9_isBox 13 = .ok (.ireturn, 1) := by decide +kernel
set_option maxRecDepth 20000 in
theorem ggX9_isBox_X9_isIn : GoodIn wsX9_isBox wsX9_isIn := goodIn_r _ [5] (by decide +kernel) (by decide +kernel)
set_option maxRecDepth 20000 in
theorem gX9_isBox_X9_isIn : GoodIn wsX9_isBox (va_wsS RX9 44 yX9_isIn wsX9_isIn) := goodIn_app (goodIn_of _ (by decide +kernel)) ggX9_isBox_X9_isIn
def rm_X9_isBox : Room := { frames := 2, cells := 0, slots := 0, locals := 38 }
set_option maxHeartbeats 4000000 in
set_option maxRecDepth 100000 in
theorem c_X9_isBox (l : Launch) {G : zG} {ad : Nat → Nat} {σ σ' : zs} {a1 : Int32} {r : Int32} (hf : f_X9_isBox σ a1 = some (r, σ')) : xMi l yX9_isBox wsX9_isBox rm_X9_isBox G ad σ [.ref (ad 65), .int a1] r σ' := by
  intro sz nb a g hs
  refine Met.ofW (cc := cX9_isBox) (maxL := 2) (ret := (some .boolean)) (by decide) rfl ?_
  intro p e s m args below meth c s₁ B hml hv
  obtain ⟨rfl, hsz, hv⟩ := hv
  have hx := B.exec
  have hb := B.bytes
  have hr := B.returns
  have hts := atoms_spec (ws := wsX9_isBox) B.pre
  have hown : s.vm.findClass RX9 = some m.cls := findClass_of_methodNamed B.named
  have hlocks := B.notSynchronized
  subst hsz
  have B := xB_start hs hv
  have hinRX9 : ∀ w ∈ wsX90, w ∈ wsX9_isBox := by decide +kernel
  have hl := lv_entry ([.ref (ad 65), .int a1]) (n := 2) (Nat.le_of_ble_eq_true rfl)
  rw [lg_entry_eq]
  generalize (lg_sl ([.ref (ad 65), .int a1]) ++ List.replicate (2 - (lg_sl ([.ref (ad 65), .int a1])).length) Slot.unset).toArray = ls at hl ⊢
  have hl : lv_has ls 2 [(0, .ref (ad 65)), (1, .int a1)] := hl
  generalize hAe : xA ad a s.heap.size = A at B ⊢
  unfold f_X9_isBox at hf
  refine lv_iload_n hx hb dX9_isBox_0 rfl (lv_at hl 1 rfl) ?_
  refine lv_iconst (v := (0 : Int32)) hx hb dX9_isBox_1 (by decide) ?_
  refine lv_aload_n hx hb dX9_isBox_2 rfl (lv_at hl 0 rfl) ?_
  refine x_getr hx hb hts hinRX9 hown B 65 0 66 (by decide) (by decide) (fun _ => rfl) rfl rfl (by decide) (by decide +kernel) rfl dX9_isBox_3 ?_
  refine lv_iconst (v := (3 : Int32)) hx hb dX9_isBox_6 (by decide) ?_
  obtain ⟨hg, hf⟩ := zg_some hf
  refine x_iald hx hb B 66 (by decide) (fun _ => rfl) (zin_ok hg) dX9_isBox_7 ?_
  refine lv_iconst (v := (1 : Int32)) hx hb dX9_isBox_8 (by decide) ?_
  refine lv_isub hx hb dX9_isBox_9 ?_
  obtain ⟨r2, σ3, hu1, hf⟩ := zb_some hf
  refine x_i B (fun nb a g hs Bz => va_runS (As := [.int a1, .int (0 : Int32), .int ((σ 66 (3 : Int32).toNatClampNeg) - (1 : Int32))]) (rest := []) ⟨hx, hb, hml, hown, hts⟩ (c_X9_isIn l hu1 _ nb a g hs) (va_cwS 3 hts gX9_isBox_X9_isIn rfl rfl rfl (by decide +kernel) ⟨Nat.le_of_ble_eq_true rfl, Nat.le_of_ble_eq_true rfl⟩) (z_preS Bz) rfl rfl hl.1 rfl (lv_room (Nat.le_of_ble_eq_true rfl)) dX9_isBox_10 ⟨Nat.le_of_ble_eq_true rfl, Nat.le_of_ble_eq_true rfl⟩) (fun H locs B => ?_)
  obtain ⟨hg, hf⟩ := zg_some hf
  refine W.widen (k := 0) (n := 0) (Nat.le_of_ble_eq_true rfl) (Nat.le_of_ble_eq_true rfl) ?_
  exact x_iret hx hb hr (znz hg) hlocks B hf dX9_isBox_13
theorem dX9_makePair_0 : decode cX9_makePair 0 = .ok (.aload_n 0, 1) := by decide +kernel
theorem dX9_makePair_1 : decode cX9_makePair 1 = .ok (.iload_n 1, 1) := by decide +kernel
theorem dX9_makePair_2 : decode cX9_makePair 2 = .ok (.invokestatic 78, 3) := by decide +kernel
theorem dX9_makePair_5 : decode cX9_makePair 5 = .ok (.ifCond .ne 7, 3) := by decide +kernel
theorem dX9_makePair_8 : decode cX9_makePair 8 = .ok (.iconst 1, 1) := by decide +kernel
theorem dX9_makePair_9 : decode cX9_makePair 9 = .ok (.goto 18, 3) := by decide +kernel
theorem dX9_makePair_12 : decode cX9_makePair 12 = .ok (.aload_n 0, 1) := by decide +kernel
theorem dX9_makePair_13 : decode cX9_makePair 13 = .ok (.getfield 9, 3) := by decide +kernel
theorem dX9_makePair_16 : decode cX9_makePair 16 = .ok (.iconst 2, 1) := by decide +kernel
theorem dX9_makePair_17 : decode cX9_makePair 17 = .ok (.iaload, 1) := by decide +kernel
theorem dX9_makePair_18 : decode cX9_makePair 18 = .ok (.iconst 4, 1) := by decide +kernel
theorem dX9_makePair_19 : decode cX9_makePair 19 = .ok (.if_icmp .ne 7, 3) := by decide +kernel
theorem dX9_makePair_22 : decode cX9_makePair 22 = .ok (.iconst 2, 1) := by decide +kernel
theorem dX9_makePair_23 : decode cX9_makePair 23 = .ok (.goto 4, 3) := by decide +kernel
theorem dX9_makePair_26 : decode cX9_makePair 26 = .ok (.iconst 0, 1) := by decide +kernel
theorem dX9_makePair_27 : decode cX9_makePair 27 = .ok (.putfield 41, 3) := by decide +kernel
theorem dX9_makePair_30 : decode cX9_makePair 30 = .ok (.aload_n 0, 1) := by decide +kernel
theorem dX9_makePair_31 : decode cX9_makePair 31 = .ok (.getfield 41, 3) := by decide +kernel
theorem dX9_makePair_34 : decode cX9_makePair 34 = .ok (.ifCond .eq 5, 3) := by decide +kernel
theorem dX9_makePair_37 : decode cX9_makePair 37 = .ok (.iconst 0, 1) := by decide +kernel
theorem dX9_makePair_38 : decode cX9_makePair 38 = .ok (.ireturn, 1) := by decide +kernel
theorem dX9_makePair_39 : decode cX9_makePair 39 = .ok (.aload_n 0, 1) := by decide +kernel
theorem dX9_makePair_40 : decode cX9_makePair 40 = .ok (.getfield 9, 3) := by decide +kernel
theorem dX9_makePair_43 : decode cX9_makePair 43 = .ok (.iconst 2, 1) := by decide +kernel
theorem dX9_makePair_44 : decode cX9_makePair 44 = .ok (.iaload, 1) := by decide +kernel
theorem dX9_makePair_45 : decode cX9_makePair 45 = .ok (.istore_n 2, 1) := by decide +kernel
theorem dX9_makePair_46 : decode cX9_makePair 46 = .ok (.aload_n 0, 1) := by decide +kernel
theorem dX9_makePair_47 : decode cX9_makePair 47 = .ok (.getfield 9, 3) := by decide +kernel
theorem dX9_makePair_50 : decode cX9_makePair 50 = .ok (.sipush 555, 3) := by decide +kernel
theorem dX9_makePair_53 : decode cX9_makePair 53 = .ok (.iload_n 2, 1) := by decide +kernel
theorem dX9_makePair_54 : decode cX9_makePair 54 = .ok (.iadd, 1) := by decide +kernel
theorem dX9_makePair_55 : decode cX9_makePair 55 = .ok (.iconst 1, 1) := by decide +kernel
theorem dX9_makePair_56 : decode cX9_makePair 56 = .ok (.iload_n 1, 1) := by decide +kernel
theorem dX9_makePair_57 : decode cX9_makePair 57 = .ok (.ishl, 1) := by decide +kernel
theorem dX9_makePair_58 : decode cX9_makePair 58 = .ok (.iastore, 1) := by decide +kernel
theorem dX9_makePair_59 : decode cX9_makePair 59 = .ok (.aload_n 0, 1) := by decide +kernel
theorem dX9_makePair_60 : decode cX9_makePair 60 = .ok (.getfield 9, 3) := by decide +kernel
theorem dX9_makePair_63 : decode cX9_makePair 63 = .ok (.sipush 559, 3) := by decide +kernel
theorem dX9_makePair_66 : decode cX9_makePair 66 = .ok (.iload_n 2, 1) := by decide +kernel
theorem dX9_makePair_67 : decode cX9_makePair 67 = .ok (.iadd, 1) := by decide +kernel
theorem dX9_makePair_68 : decode cX9_makePair 68 = .ok (.iconst 1, 1) := by decide +kernel
theorem dX9_makePair_69 : decode cX9_makePair 69 = .ok (.iload_n 1, 1) := by decide +kernel
theorem dX9_makePair_70 : decode cX9_makePair 70 = .ok (.ishl, 1) := by decide +kernel
theorem dX9_makePair_71 : decode cX9_makePair 71 = .ok (.iastore, 1) := by decide +kernel
theorem dX9_makePair_72 : decode cX9_makePair 72 = .ok (.aload_n 0, 1) := by decide +kernel
theorem dX9_makePair_73 : decode cX9_makePair 73 = .ok (.getfield 9, 3) := by decide +kernel
theorem dX9_makePair_76 : decode cX9_makePair 76 = .ok (.iconst 2, 1) := by decide +kernel
theorem dX9_makePair_77 : decode cX9_makePair 77 = .ok (.dup2, 1) := by decide +kernel
theorem dX9_makePair_78 : decode cX9_makePair 78 = .ok (.iaload, 1) := by decide +kernel
theorem dX9_makePair_79 : decode cX9_makePair 79 = .ok (.iconst 1, 1) := by decide +kernel
theorem dX9_makePair_80 : decode cX9_makePair 80 = .ok (.iadd, 1) := by decide +kernel
theorem dX9_makePair_81 : decode cX9_makePair 81 = .ok (.iastore, 1) := by decide +kernel
theorem dX9_makePair_82 : decode cX9_makePair 82 = .ok (.iload_n 2, 1) := by decide +kernel
theorem dX9_makePair_83 : decode cX9_makePair 83 = .ok (.ireturn, 1) := by decide +kernel
set_option maxRecDepth 20000 in
theorem ggX9_makePair_X9_isSubject : GoodIn wsX9_makePair wsX9_isSubject := goodIn_r _ [6, 7, 8, 5, 9] (by decide +kernel) (by decide +kernel)
set_option maxRecDepth 20000 in
theorem gX9_makePair_X9_isSubject : GoodIn wsX9_makePair (va_wsS RX9 78 yX9_isSubject wsX9_isSubject) := goodIn_app (goodIn_of _ (by decide +kernel)) ggX9_makePair_X9_isSubject
def rm_X9_makePair : Room := { frames := 3, cells := 0, slots := 0, locals := 58 }
set_option maxHeartbeats 4000000 in
set_option maxRecDepth 100000 in
theorem c_X9_makePair (l : Launch) {G : zG} {ad : Nat → Nat} {σ σ' : zs} {a1 : Int32} {r : Int32} (hf : f_X9_makePair σ a1 = some (r, σ')) : xMi l yX9_makePair wsX9_makePair rm_X9_makePair G ad σ [.ref (ad 65), .int a1] r σ' := by
  intro sz nb a g hs
  refine Met.ofW (cc := cX9_makePair) (maxL := 3) (ret := (some .int)) (by decide) rfl ?_
  intro p e s m args below meth c s₁ B hml hv
  obtain ⟨rfl, hsz, hv⟩ := hv
  have hx := B.exec
  have hb := B.bytes
  have hr := B.returns
  have hts := atoms_spec (ws := wsX9_makePair) B.pre
  have hown : s.vm.findClass RX9 = some m.cls := findClass_of_methodNamed B.named
  have hlocks := B.notSynchronized
  subst hsz
  have B := xB_start hs hv
  have hinRX9 : ∀ w ∈ wsX90, w ∈ wsX9_makePair := by decide +kernel
  have hl := lv_entry ([.ref (ad 65), .int a1]) (n := 3) (Nat.le_of_ble_eq_true rfl)
  rw [lg_entry_eq]
  generalize (lg_sl ([.ref (ad 65), .int a1]) ++ List.replicate (3 - (lg_sl ([.ref (ad 65), .int a1])).length) Slot.unset).toArray = ls at hl ⊢
  have hl : lv_has ls 3 [(0, .ref (ad 65)), (1, .int a1)] := hl
  generalize hAe : xA ad a s.heap.size = A at B ⊢
  have L27 : ∀ (σ : zs) (v1 : Int32) (s0 : Int32) (H : Heap) (locs : List Loc) (ls : Array Slot), f_X9_makePair_27 σ v1 s0 = some (r, σ') → xB A s G ad σ H locs → lv_has ls 3 [(0, .ref (ad 65)), (1, .int v1)] → W p l e (headSpec wsX9_makePair rm_X9_makePair).room s m ([.ref (ad 65), .int a1] : List Value).toArray below meth c H locs 0 0 (MQ below (va_Qi (fun r' (u : xV) => r' = r ∧ xQ σ' u) (xPost G ad σ' A) A) ([.ref (ad 65), .int a1] : List Value).toArray s 0 0 A) (F0 m 27 ls [.int s0, .ref (ad 65)]) := by
    intro σ v1 s0 H locs ls hf B hl
    unfold f_X9_makePair_27 at hf
    refine x_puti hx hb hts hinRX9 hown tyX9 tyX9_ok nmX9 B 65 3 (by decide) (by decide) (fun _ => rfl) rfl rfl (by decide) (by decide +kernel) rfl rfl rfl rfl dX9_makePair_27 (fun H locs B => ?_)
    refine lv_aload_n hx hb dX9_makePair_30 rfl (lv_at hl 0 rfl) ?_
    refine x_geti hx hb hts hinRX9 hown B 65 3 (by decide) (fun _ => rfl) rfl rfl (by decide) (by decide +kernel) rfl dX9_makePair_31 ?_
    refine lv_if_eq (tgt := 39) hx hb dX9_makePair_34 (by decide) (fun hc => ?_) (fun hc => ?_)
    · have hf := zif_t hc hf
      refine lv_aload_n hx hb dX9_makePair_39 rfl (lv_at hl 0 rfl) ?_
      refine x_getr hx hb hts hinRX9 hown B 65 0 66 (by decide) (by decide) (fun _ => rfl) rfl rfl (by decide) (by decide +kernel) rfl dX9_makePair_40 ?_
      refine lv_iconst (v := (2 : Int32)) hx hb dX9_makePair_43 (by decide) ?_
      obtain ⟨hg, hf⟩ := zg_some hf
      refine x_iald hx hb B 66 (by decide) (fun _ => rfl) (zin_ok hg) dX9_makePair_44 ?_
      refine lv_istore_n (lv' := [(2, .int ((zp σ 65 3 s0) 66 (2 : Int32).toNatClampNeg)), (0, .ref (ad 65)), (1, .int v1)]) hx hb dX9_makePair_45 rfl hl (by decide) rfl (fun ls hl => ?_)
      refine lv_aload_n hx hb dX9_makePair_46 rfl (lv_at hl 1 rfl) ?_
      refine x_getr hx hb hts hinRX9 hown B 65 0 66 (by decide) (by decide) (fun _ => rfl) rfl rfl (by decide) (by decide +kernel) rfl dX9_makePair_47 ?_
      refine lv_sipush (v := (555 : Int32)) hx hb dX9_makePair_50 (by decide) ?_
      refine lv_iload_n hx hb dX9_makePair_53 rfl (lv_at hl 0 rfl) ?_
      refine lv_iadd hx hb dX9_makePair_54 ?_
      refine lv_iconst (v := (1 : Int32)) hx hb dX9_makePair_55 (by decide) ?_
      refine lv_iload_n hx hb dX9_makePair_56 rfl (lv_at hl 2 rfl) ?_
      refine lv_ishl hx hb dX9_makePair_57 ?_
      obtain ⟨hg, hf⟩ := zg_some hf
      refine x_iast hx hb B 66 (by decide) (by decide) (fun _ => rfl) (zin_ok hg) dX9_makePair_58 (fun H locs B => ?_)
      refine lv_aload_n hx hb dX9_makePair_59 rfl (lv_at hl 1 rfl) ?_
      refine x_getr hx hb hts hinRX9 hown B 65 0 66 (by decide) (by decide) (fun _ => rfl) rfl rfl (by decide) (by decide +kernel) rfl dX9_makePair_60 ?_
      refine lv_sipush (v := (559 : Int32)) hx hb dX9_makePair_63 (by decide) ?_
      refine lv_iload_n hx hb dX9_makePair_66 rfl (lv_at hl 0 rfl) ?_
      refine lv_iadd hx hb dX9_makePair_67 ?_
      refine lv_iconst (v := (1 : Int32)) hx hb dX9_makePair_68 (by decide) ?_
      refine lv_iload_n hx hb dX9_makePair_69 rfl (lv_at hl 2 rfl) ?_
      refine lv_ishl hx hb dX9_makePair_70 ?_
      obtain ⟨hg, hf⟩ := zg_some hf
      refine x_iast hx hb B 66 (by decide) (by decide) (fun _ => rfl) (zin_ok hg) dX9_makePair_71 (fun H locs B => ?_)
      refine lv_aload_n hx hb dX9_makePair_72 rfl (lv_at hl 1 rfl) ?_
      refine x_getr hx hb hts hinRX9 hown B 65 0 66 (by decide) (by decide) (fun _ => rfl) rfl rfl (by decide) (by decide +kernel) rfl dX9_makePair_73 ?_
      refine lv_iconst (v := (2 : Int32)) hx hb dX9_makePair_76 (by decide) ?_
      refine lv_dup2_11 hx hb dX9_makePair_77 rfl rfl ?_
      obtain ⟨hg, hf⟩ := zg_some hf
      refine x_iald hx hb B 66 (by decide) (fun _ => rfl) (zin_ok hg) dX9_makePair_78 ?_
      refine lv_iconst (v := (1 : Int32)) hx hb dX9_makePair_79 (by decide) ?_
      refine lv_iadd hx hb dX9_makePair_80 ?_
      obtain ⟨hg, hf⟩ := zg_some hf
      refine x_iast hx hb B 66 (by decide) (by decide) (fun _ => rfl) (zin_ok hg) dX9_makePair_81 (fun H locs B => ?_)
      refine lv_iload_n hx hb dX9_makePair_82 rfl (lv_at hl 0 rfl) ?_
      refine W.widen (k := 0) (n := 0) (Nat.le_of_ble_eq_true rfl) (Nat.le_of_ble_eq_true rfl) ?_
      exact x_iret hx hb hr rfl hlocks B hf dX9_makePair_83
    · have hf := zif_f hc hf
      refine lv_iconst (v := (0 : Int32)) hx hb dX9_makePair_37 (by decide) ?_
      refine W.widen (k := 0) (n := 0) (Nat.le_of_ble_eq_true rfl) (Nat.le_of_ble_eq_true rfl) ?_
      exact x_iret hx hb hr rfl hlocks B hf dX9_makePair_38
  unfold f_X9_makePair at hf
  refine lv_aload_n hx hb dX9_makePair_0 rfl (lv_at hl 0 rfl) ?_
  refine lv_iload_n hx hb dX9_makePair_1 rfl (lv_at hl 1 rfl) ?_
  obtain ⟨r2, σ3, hu1, hf⟩ := zb_some hf
  refine x_i B (fun nb a g hs Bz => va_runS (As := [.int a1]) (rest := [.ref (ad 65)]) ⟨hx, hb, hml, hown, hts⟩ (c_X9_isSubject l hu1 _ nb a g hs) (va_cwS 1 hts gX9_makePair_X9_isSubject rfl rfl rfl (by decide +kernel) ⟨Nat.le_of_ble_eq_true rfl, Nat.le_of_ble_eq_true rfl⟩) (z_preS Bz) rfl rfl hl.1 rfl (lv_room (Nat.le_of_ble_eq_true rfl)) dX9_makePair_2 ⟨Nat.le_of_ble_eq_true rfl, Nat.le_of_ble_eq_true rfl⟩) (fun H locs B => ?_)
  refine lv_if_ne (tgt := 12) hx hb dX9_makePair_5 (by decide) (fun hc => ?_) (fun hc => ?_)
  · have hf := zif_f hc hf
    refine lv_aload_n hx hb dX9_makePair_12 rfl (lv_at hl 0 rfl) ?_
    refine x_getr hx hb hts hinRX9 hown B 65 0 66 (by decide) (by decide) (fun _ => rfl) rfl rfl (by decide) (by decide +kernel) rfl dX9_makePair_13 ?_
    refine lv_iconst (v := (2 : Int32)) hx hb dX9_makePair_16 (by decide) ?_
    obtain ⟨hg, hf⟩ := zg_some hf
    refine x_iald hx hb B 66 (by decide) (fun _ => rfl) (zin_ok hg) dX9_makePair_17 ?_
    refine lv_iconst (v := (4 : Int32)) hx hb dX9_makePair_18 (by decide) ?_
    refine lv_icmp_ne (tgt := 26) hx hb dX9_makePair_19 (by decide) (fun hc => ?_) (fun hc => ?_)
    · have hf := zif_f hc hf
      refine lv_iconst (v := (0 : Int32)) hx hb dX9_makePair_26 (by decide) ?_
      exact L27  _ _ _ _ _ _ hf B (lv_sub hl [0, 1] rfl)
    · have hf := zif_t hc hf
      refine lv_iconst (v := (2 : Int32)) hx hb dX9_makePair_22 (by decide) ?_
      refine lv_goto (tgt := 27) hx hb dX9_makePair_23 (by decide) ?_
      exact L27  _ _ _ _ _ _ hf B (lv_sub hl [0, 1] rfl)
  · have hf := zif_t hc hf
    refine lv_iconst (v := (1 : Int32)) hx hb dX9_makePair_8 (by decide) ?_
    refine lv_goto (tgt := 27) hx hb dX9_makePair_9 (by decide) ?_
    exact L27  _ _ _ _ _ _ hf B (lv_sub hl [0, 1] rfl)
theorem dX9_givePair_0 : decode cX9_givePair 0 = .ok (.aload_n 0, 1) := by decide +kernel
theorem dX9_givePair_1 : decode cX9_givePair 1 = .ok (.iload_n 1, 1) := by decide +kernel
theorem dX9_givePair_2 : decode cX9_givePair 2 = .ok (.invokestatic 78, 3) := by decide +kernel
theorem dX9_givePair_5 : decode cX9_givePair 5 = .ok (.ifCond .eq 22, 3) := by decide +kernel
theorem dX9_givePair_8 : decode cX9_givePair 8 = .ok (.iload_n 2, 1) := by decide +kernel
theorem dX9_givePair_9 : decode cX9_givePair 9 = .ok (.invokestatic 78, 3) := by decide +kernel
theorem dX9_givePair_12 : decode cX9_givePair 12 = .ok (.ifCond .eq 15, 3) := by decide +kernel
theorem dX9_givePair_15 : decode cX9_givePair 15 = .ok (.aload_n 0, 1) := by decide +kernel
theorem dX9_givePair_16 : decode cX9_givePair 16 = .ok (.iload_n 3, 1) := by decide +kernel
theorem dX9_givePair_17 : decode cX9_givePair 17 = .ok (.invokevirtual 193, 3) := by decide +kernel
theorem dX9_givePair_20 : decode cX9_givePair 20 = .ok (.ifCond .eq 7, 3) := by decide +kernel
theorem dX9_givePair_23 : decode cX9_givePair 23 = .ok (.iconst 0, 1) := by decide +kernel
theorem dX9_givePair_24 : decode cX9_givePair 24 = .ok (.goto 4, 3) := by decide +kernel
theorem dX9_givePair_27 : decode cX9_givePair 27 = .ok (.iconst 1, 1) := by decide +kernel
theorem dX9_givePair_28 : decode cX9_givePair 28 = .ok (.putfield 41, 3) := by decide +kernel
theorem dX9_givePair_31 : decode cX9_givePair 31 = .ok (.aload_n 0, 1) := by decide +kernel
theorem dX9_givePair_32 : decode cX9_givePair 32 = .ok (.getfield 41, 3) := by decide +kernel
theorem dX9_givePair_35 : decode cX9_givePair 35 = .ok (.ifCond .eq 5, 3) := by decide +kernel
theorem dX9_givePair_38 : decode cX9_givePair 38 = .ok (.iconst 0, 1) := by decide +kernel
theorem dX9_givePair_39 : decode cX9_givePair 39 = .ok (.ireturn, 1) := by decide +kernel
theorem dX9_givePair_40 : decode cX9_givePair 40 = .ok (.iload 4, 2) := by decide +kernel
theorem dX9_givePair_42 : decode cX9_givePair 42 = .ok (.ifCond .eq 9, 3) := by decide +kernel
theorem dX9_givePair_45 : decode cX9_givePair 45 = .ok (.sipush 559, 3) := by decide +kernel
theorem dX9_givePair_48 : decode cX9_givePair 48 = .ok (.goto 6, 3) := by decide +kernel
theorem dX9_givePair_51 : decode cX9_givePair 51 = .ok (.sipush 555, 3) := by decide +kernel
theorem dX9_givePair_54 : decode cX9_givePair 54 = .ok (.iload_n 3, 1) := by decide +kernel
theorem dX9_givePair_55 : decode cX9_givePair 55 = .ok (.iadd, 1) := by decide +kernel
theorem dX9_givePair_56 : decode cX9_givePair 56 = .ok (.istore 5, 2) := by decide +kernel
theorem dX9_givePair_58 : decode cX9_givePair 58 = .ok (.aload_n 0, 1) := by decide +kernel
theorem dX9_givePair_59 : decode cX9_givePair 59 = .ok (.aload_n 0, 1) := by decide +kernel
theorem dX9_givePair_60 : decode cX9_givePair 60 = .ok (.getfield 9, 3) := by decide +kernel
theorem dX9_givePair_63 : decode cX9_givePair 63 = .ok (.iload 5, 2) := by decide +kernel
theorem dX9_givePair_65 : decode cX9_givePair 65 = .ok (.iaload, 1) := by decide +kernel
theorem dX9_givePair_66 : decode cX9_givePair 66 = .ok (.iload_n 1, 1) := by decide +kernel
theorem dX9_givePair_67 : decode cX9_givePair 67 = .ok (.invokestatic 59, 3) := by decide +kernel
theorem dX9_givePair_70 : decode cX9_givePair 70 = .ok (.ifCond .eq 7, 3) := by decide +kernel
theorem dX9_givePair_73 : decode cX9_givePair 73 = .ok (.iconst 0, 1) := by decide +kernel
theorem dX9_givePair_74 : decode cX9_givePair 74 = .ok (.goto 10, 3) := by decide +kernel
theorem dX9_givePair_77 : decode cX9_givePair 77 = .ok (.aload_n 0, 1) := by decide +kernel
theorem dX9_givePair_78 : decode cX9_givePair 78 = .ok (.iconst 5, 1) := by decide +kernel
theorem dX9_givePair_79 : decode cX9_givePair 79 = .ok (.iload_n 3, 1) := by decide +kernel
theorem dX9_givePair_80 : decode cX9_givePair 80 = .ok (.iconst 2, 1) := by decide +kernel
theorem dX9_givePair_81 : decode cX9_givePair 81 = .ok (.invokevirtual 63, 3) := by decide +kernel
theorem dX9_givePair_84 : decode cX9_givePair 84 = .ok (.putfield 41, 3) := by decide +kernel
theorem dX9_givePair_87 : decode cX9_givePair 87 = .ok (.aload_n 0, 1) := by decide +kernel
theorem dX9_givePair_88 : decode cX9_givePair 88 = .ok (.getfield 41, 3) := by decide +kernel
theorem dX9_givePair_91 : decode cX9_givePair 91 = .ok (.ifCond .eq 5, 3) := by decide +kernel
theorem dX9_givePair_94 : decode cX9_givePair 94 = .ok (.iconst 0, 1) := by decide +kernel
theorem dX9_givePair_95 : decode cX9_givePair 95 = .ok (.ireturn, 1) := by decide +kernel
theorem dX9_givePair_96 : decode cX9_givePair 96 = .ok (.aload_n 0, 1) := by decide +kernel
theorem dX9_givePair_97 : decode cX9_givePair 97 = .ok (.getfield 9, 3) := by decide +kernel
theorem dX9_givePair_100 : decode cX9_givePair 100 = .ok (.iload 5, 2) := by decide +kernel
theorem dX9_givePair_102 : decode cX9_givePair 102 = .ok (.dup2, 1) := by decide +kernel
theorem dX9_givePair_103 : decode cX9_givePair 103 = .ok (.iaload, 1) := by decide +kernel
theorem dX9_givePair_104 : decode cX9_givePair 104 = .ok (.iconst 1, 1) := by decide +kernel
theorem dX9_givePair_105 : decode cX9_givePair 105 = .ok (.iload_n 2, 1) := by decide +kernel
theorem dX9_givePair_106 : decode cX9_givePair 106 = .ok (.ishl, 1) := by decide +kernel
theorem dX9_givePair_107 : decode cX9_givePair 107 = .ok (.ior, 1) := by decide +kernel
theorem dX9_givePair_108 : decode cX9_givePair 108 = .ok (.iastore, 1) := by decide +kernel
theorem dX9_givePair_109 : decode cX9_givePair 109 = .ok (.aload_n 0, 1) := by decide +kernel
theorem dX9_givePair_110 : decode cX9_givePair 110 = .ok (.getfield 9, 3) := by decide +kernel
theorem dX9_givePair_113 : decode cX9_givePair 113 = .ok (.iload 5, 2) := by decide +kernel
theorem dX9_givePair_115 : decode cX9_givePair 115 = .ok (.iaload, 1) := by decide +kernel
theorem dX9_givePair_116 : decode cX9_givePair 116 = .ok (.ireturn, 1) := by decide +kernel
set_option maxRecDepth 20000 in
theorem ggX9_givePair_X9_isSubject : GoodIn wsX9_givePair wsX9_isSubject := goodIn_r _ [6, 7, 8, 5, 9] (by decide +kernel) (by decide +kernel)
set_option maxRecDepth 20000 in
theorem gX9_givePair_X9_isSubject : GoodIn wsX9_givePair (va_wsS RX9 78 yX9_isSubject wsX9_isSubject) := goodIn_app (goodIn_of _ (by decide +kernel)) ggX9_givePair_X9_isSubject
set_option maxRecDepth 20000 in
theorem ggX9_givePair_X9_has : GoodIn wsX9_givePair wsX9_has := goodIn_r _ [16] (by decide +kernel) (by decide +kernel)
set_option maxRecDepth 20000 in
theorem gX9_givePair_X9_has : GoodIn wsX9_givePair (va_wsS RX9 59 yX9_has wsX9_has) := goodIn_app (goodIn_of _ (by decide +kernel)) ggX9_givePair_X9_has
set_option maxRecDepth 20000 in
theorem ggX9_givePair_X9_reports : GoodIn wsX9_givePair wsX9_reports := goodIn_ca (goodIn_r _ [20, 21, 22, 23, 24, 5, 25, 26, 27, 28, 29, 30, 31, 32, 33, 34, 35, 36, 37, 38, 39, 40, 41, 42, 43, 44, 45, 46, 47] (by decide +kernel) (by decide +kernel)) (goodIn_sub (fun _ h => List.mem_cons_of_mem _ (List.mem_append_right _ h)) (by decide +kernel))
set_option maxRecDepth 20000 in
theorem gX9_givePair_X9_reports : GoodIn wsX9_givePair (wsV RX9 63 RX9 yX9_reports wsX9_reports) := goodIn_app (goodIn_of _ (by decide +kernel)) ggX9_givePair_X9_reports
set_option maxRecDepth 20000 in
theorem ggX9_givePair_X9_isPair : GoodIn wsX9_givePair wsX9_isPair := goodIn_ca (goodIn_r _ [13, 2, 7, 8, 5, 9, 28, 29, 30, 31, 32, 33, 34, 35, 36, 37, 38, 39, 40, 41, 42, 43, 44, 45, 46, 47] (by decide +kernel) (by decide +kernel)) (goodIn_sub (fun _ h => List.mem_cons_of_mem _ (List.mem_append_right _ h)) (by decide +kernel))
set_option maxRecDepth 20000 in
theorem gX9_givePair_X9_isPair : GoodIn wsX9_givePair (wsV RX9 193 RX9 yX9_isPair wsX9_isPair) := goodIn_app (goodIn_of _ (by decide +kernel)) ggX9_givePair_X9_isPair
def rm_X9_givePair : Room := { frames := 3, cells := 0, slots := 0, locals := 61 }
set_option maxHeartbeats 4000000 in
set_option maxRecDepth 100000 in
theorem c_X9_givePair (l : Launch) {G : zG} {ad : Nat → Nat} {σ σ' : zs} {a1 a2 a3 a4 : Int32} {r : Int32} (hf : f_X9_givePair σ a1 a2 a3 a4 = some (r, σ')) : xMi l yX9_givePair wsX9_givePair rm_X9_givePair G ad σ [.ref (ad 65), .int a1, .int a2, .int a3, .int a4] r σ' := by
  intro sz nb a g hs
  refine Met.ofW (cc := cX9_givePair) (maxL := 6) (ret := (some .int)) (by decide) rfl ?_
  intro p e s m args below meth c s₁ B hml hv
  obtain ⟨rfl, hsz, hv⟩ := hv
  have hx := B.exec
  have hb := B.bytes
  have hr := B.returns
  have hts := atoms_spec (ws := wsX9_givePair) B.pre
  have hown : s.vm.findClass RX9 = some m.cls := findClass_of_methodNamed B.named
  have hlocks := B.notSynchronized
  subst hsz
  have B := xB_start hs hv
  have hinRX9 : ∀ w ∈ wsX90, w ∈ wsX9_givePair := by decide +kernel
  have hl := lv_entry ([.ref (ad 65), .int a1, .int a2, .int a3, .int a4]) (n := 6) (Nat.le_of_ble_eq_true rfl)
  rw [lg_entry_eq]
  generalize (lg_sl ([.ref (ad 65), .int a1, .int a2, .int a3, .int a4]) ++ List.replicate (6 - (lg_sl ([.ref (ad 65), .int a1, .int a2, .int a3, .int a4])).length) Slot.unset).toArray = ls at hl ⊢
  have hl : lv_has ls 6 [(0, .ref (ad 65)), (1, .int a1), (2, .int a2), (3, .int a3), (4, .int a4)] := hl
  generalize hAe : xA ad a s.heap.size = A at B ⊢
  have L84 : ∀ (σ : zs) (v2 : Int32) (v5 : Int32) (s0 : Int32) (H : Heap) (locs : List Loc) (ls : Array Slot), f_X9_givePair_84 σ v2 v5 s0 = some (r, σ') → xB A s G ad σ H locs → lv_has ls 6 [(0, .ref (ad 65)), (2, .int v2), (5, .int v5)] → W p l e (headSpec wsX9_givePair rm_X9_givePair).room s m ([.ref (ad 65), .int a1, .int a2, .int a3, .int a4] : List Value).toArray below meth c H locs 0 0 (MQ below (va_Qi (fun r' (u : xV) => r' = r ∧ xQ σ' u) (xPost G ad σ' A) A) ([.ref (ad 65), .int a1, .int a2, .int a3, .int a4] : List Value).toArray s 0 0 A) (F0 m 84 ls [.int s0, .ref (ad 65)]) := by
    intro σ v2 v5 s0 H locs ls hf B hl
    unfold f_X9_givePair_84 at hf
    refine x_puti hx hb hts hinRX9 hown tyX9 tyX9_ok nmX9 B 65 3 (by decide) (by decide) (fun _ => rfl) rfl rfl (by decide) (by decide +kernel) rfl rfl rfl rfl dX9_givePair_84 (fun H locs B => ?_)
    refine lv_aload_n hx hb dX9_givePair_87 rfl (lv_at hl 0 rfl) ?_
    refine x_geti hx hb hts hinRX9 hown B 65 3 (by decide) (fun _ => rfl) rfl rfl (by decide) (by decide +kernel) rfl dX9_givePair_88 ?_
    refine lv_if_eq (tgt := 96) hx hb dX9_givePair_91 (by decide) (fun hc => ?_) (fun hc => ?_)
    · have hf := zif_t hc hf
      refine lv_aload_n hx hb dX9_givePair_96 rfl (lv_at hl 0 rfl) ?_
      refine x_getr hx hb hts hinRX9 hown B 65 0 66 (by decide) (by decide) (fun _ => rfl) rfl rfl (by decide) (by decide +kernel) rfl dX9_givePair_97 ?_
      refine lv_iload hx hb dX9_givePair_100 (lv_at hl 2 rfl) ?_
      refine lv_dup2_11 hx hb dX9_givePair_102 rfl rfl ?_
      obtain ⟨hg, hf⟩ := zg_some hf
      refine x_iald hx hb B 66 (by decide) (fun _ => rfl) (zin_ok hg) dX9_givePair_103 ?_
      refine lv_iconst (v := (1 : Int32)) hx hb dX9_givePair_104 (by decide) ?_
      refine lv_iload_n hx hb dX9_givePair_105 rfl (lv_at hl 1 rfl) ?_
      refine lv_ishl hx hb dX9_givePair_106 ?_
      refine lv_ior hx hb dX9_givePair_107 ?_
      obtain ⟨hg, hf⟩ := zg_some hf
      refine x_iast hx hb B 66 (by decide) (by decide) (fun _ => rfl) (zin_ok hg) dX9_givePair_108 (fun H locs B => ?_)
      refine lv_aload_n hx hb dX9_givePair_109 rfl (lv_at hl 0 rfl) ?_
      refine x_getr hx hb hts hinRX9 hown B 65 0 66 (by decide) (by decide) (fun _ => rfl) rfl rfl (by decide) (by decide +kernel) rfl dX9_givePair_110 ?_
      refine lv_iload hx hb dX9_givePair_113 (lv_at hl 2 rfl) ?_
      obtain ⟨hg, hf⟩ := zg_some hf
      refine x_iald hx hb B 66 (by decide) (fun _ => rfl) (zin_ok hg) dX9_givePair_115 ?_
      refine W.widen (k := 0) (n := 0) (Nat.le_of_ble_eq_true rfl) (Nat.le_of_ble_eq_true rfl) ?_
      exact x_iret hx hb hr rfl hlocks B hf dX9_givePair_116
    · have hf := zif_f hc hf
      refine lv_iconst (v := (0 : Int32)) hx hb dX9_givePair_94 (by decide) ?_
      refine W.widen (k := 0) (n := 0) (Nat.le_of_ble_eq_true rfl) (Nat.le_of_ble_eq_true rfl) ?_
      exact x_iret hx hb hr rfl hlocks B hf dX9_givePair_95
  have L54 : ∀ (σ : zs) (v1 : Int32) (v2 : Int32) (v3 : Int32) (s0 : Int32) (H : Heap) (locs : List Loc) (ls : Array Slot), f_X9_givePair_54 σ v1 v2 v3 s0 = some (r, σ') → xB A s G ad σ H locs → lv_has ls 6 [(0, .ref (ad 65)), (1, .int v1), (2, .int v2), (3, .int v3)] → W p l e (headSpec wsX9_givePair rm_X9_givePair).room s m ([.ref (ad 65), .int a1, .int a2, .int a3, .int a4] : List Value).toArray below meth c H locs 0 0 (MQ below (va_Qi (fun r' (u : xV) => r' = r ∧ xQ σ' u) (xPost G ad σ' A) A) ([.ref (ad 65), .int a1, .int a2, .int a3, .int a4] : List Value).toArray s 0 0 A) (F0 m 54 ls [.int s0]) := by
    intro σ v1 v2 v3 s0 H locs ls hf B hl
    unfold f_X9_givePair_54 at hf
    refine lv_iload_n hx hb dX9_givePair_54 rfl (lv_at hl 3 rfl) ?_
    refine lv_iadd hx hb dX9_givePair_55 ?_
    refine lv_istore (lv' := [(5, .int (s0 + v3)), (0, .ref (ad 65)), (1, .int v1), (2, .int v2), (3, .int v3)]) hx hb dX9_givePair_56 hl (by decide) rfl (fun ls hl => ?_)
    refine lv_aload_n hx hb dX9_givePair_58 rfl (lv_at hl 1 rfl) ?_
    refine lv_aload_n hx hb dX9_givePair_59 rfl (lv_at hl 1 rfl) ?_
    refine x_getr hx hb hts hinRX9 hown B 65 0 66 (by decide) (by decide) (fun _ => rfl) rfl rfl (by decide) (by decide +kernel) rfl dX9_givePair_60 ?_
    refine lv_iload hx hb dX9_givePair_63 (lv_at hl 0 rfl) ?_
    obtain ⟨hg, hf⟩ := zg_some hf
    refine x_iald hx hb B 66 (by decide) (fun _ => rfl) (zin_ok hg) dX9_givePair_65 ?_
    refine lv_iload_n hx hb dX9_givePair_66 rfl (lv_at hl 2 rfl) ?_
    obtain ⟨r5, σ6, hu4, hf⟩ := zb_some hf
    refine x_i B (fun nb a g hs Bz => va_runS (As := [.int (σ 66 (s0 + v3).toNatClampNeg), .int v1]) (rest := [.ref (ad 65)]) ⟨hx, hb, hml, hown, hts⟩ (c_X9_has l hu4 _ nb a g hs) (va_cwS 2 hts gX9_givePair_X9_has rfl rfl rfl (by decide +kernel) ⟨Nat.le_of_ble_eq_true rfl, Nat.le_of_ble_eq_true rfl⟩) (z_preS Bz) rfl rfl hl.1 rfl (lv_room (Nat.le_of_ble_eq_true rfl)) dX9_givePair_67 ⟨Nat.le_of_ble_eq_true rfl, Nat.le_of_ble_eq_true rfl⟩) (fun H locs B => ?_)
    refine lv_if_eq (tgt := 77) hx hb dX9_givePair_70 (by decide) (fun hc => ?_) (fun hc => ?_)
    · have hf := zif_t hc hf
      refine lv_aload_n hx hb dX9_givePair_77 rfl (lv_at hl 1 rfl) ?_
      refine lv_iconst (v := (5 : Int32)) hx hb dX9_givePair_78 (by decide) ?_
      refine lv_iload_n hx hb dX9_givePair_79 rfl (lv_at hl 4 rfl) ?_
      refine lv_iconst (v := (2 : Int32)) hx hb dX9_givePair_80 (by decide) ?_
      obtain ⟨r8, σ9, hu7, hf⟩ := zb_some hf
      refine x_i B (fun nb a g hs Bz => va_runV (As := [.int (5 : Int32), .int v3, .int (2 : Int32)]) (rest := [.ref (ad 65)]) ⟨hx, hb, hml, hown, hts⟩ (c_X9_reports l hu7 _ nb a g hs) (cwV 3 hts gX9_givePair_X9_reports rfl rfl rfl (by decide +kernel) ⟨Nat.le_of_ble_eq_true rfl, Nat.le_of_ble_eq_true rfl⟩) (x_preV Bz (by decide) (fun _ => rfl) rfl) rfl rfl hl.1 rfl (lv_room (Nat.le_of_ble_eq_true rfl)) dX9_givePair_81 ⟨Nat.le_of_ble_eq_true rfl, Nat.le_of_ble_eq_true rfl⟩) (fun H locs B => ?_)
      exact L84  _ _ _ _ _ _ _ hf B (lv_sub hl [1, 3, 0] rfl)
    · have hf := zif_f hc hf
      refine lv_iconst (v := (0 : Int32)) hx hb dX9_givePair_73 (by decide) ?_
      refine lv_goto (tgt := 84) hx hb dX9_givePair_74 (by decide) ?_
      exact L84  _ _ _ _ _ _ _ hf B (lv_sub hl [1, 3, 0] rfl)
  have L28 : ∀ (σ : zs) (v1 : Int32) (v2 : Int32) (v3 : Int32) (v4 : Int32) (s0 : Int32) (H : Heap) (locs : List Loc) (ls : Array Slot), f_X9_givePair_28 σ v1 v2 v3 v4 s0 = some (r, σ') → xB A s G ad σ H locs → lv_has ls 6 [(0, .ref (ad 65)), (1, .int v1), (2, .int v2), (3, .int v3), (4, .int v4)] → W p l e (headSpec wsX9_givePair rm_X9_givePair).room s m ([.ref (ad 65), .int a1, .int a2, .int a3, .int a4] : List Value).toArray below meth c H locs 0 0 (MQ below (va_Qi (fun r' (u : xV) => r' = r ∧ xQ σ' u) (xPost G ad σ' A) A) ([.ref (ad 65), .int a1, .int a2, .int a3, .int a4] : List Value).toArray s 0 0 A) (F0 m 28 ls [.int s0, .ref (ad 65)]) := by
    intro σ v1 v2 v3 v4 s0 H locs ls hf B hl
    unfold f_X9_givePair_28 at hf
    refine x_puti hx hb hts hinRX9 hown tyX9 tyX9_ok nmX9 B 65 3 (by decide) (by decide) (fun _ => rfl) rfl rfl (by decide) (by decide +kernel) rfl rfl rfl rfl dX9_givePair_28 (fun H locs B => ?_)
    refine lv_aload_n hx hb dX9_givePair_31 rfl (lv_at hl 0 rfl) ?_
    refine x_geti hx hb hts hinRX9 hown B 65 3 (by decide) (fun _ => rfl) rfl rfl (by decide) (by decide +kernel) rfl dX9_givePair_32 ?_
    refine lv_if_eq (tgt := 40) hx hb dX9_givePair_35 (by decide) (fun hc => ?_) (fun hc => ?_)
    · have hf := zif_t hc hf
      refine lv_iload hx hb dX9_givePair_40 (lv_at hl 4 rfl) ?_
      refine lv_if_eq (tgt := 51) hx hb dX9_givePair_42 (by decide) (fun hc => ?_) (fun hc => ?_)
      · have hf := zif_t hc hf
        refine lv_sipush (v := (555 : Int32)) hx hb dX9_givePair_51 (by decide) ?_
        exact L54  _ _ _ _ _ _ _ _ hf B (lv_sub hl [0, 1, 2, 3] rfl)
      · have hf := zif_f hc hf
        refine lv_sipush (v := (559 : Int32)) hx hb dX9_givePair_45 (by decide) ?_
        refine lv_goto (tgt := 54) hx hb dX9_givePair_48 (by decide) ?_
        exact L54  _ _ _ _ _ _ _ _ hf B (lv_sub hl [0, 1, 2, 3] rfl)
    · have hf := zif_f hc hf
      refine lv_iconst (v := (0 : Int32)) hx hb dX9_givePair_38 (by decide) ?_
      refine W.widen (k := 0) (n := 0) (Nat.le_of_ble_eq_true rfl) (Nat.le_of_ble_eq_true rfl) ?_
      exact x_iret hx hb hr rfl hlocks B hf dX9_givePair_39
  unfold f_X9_givePair at hf
  refine lv_aload_n hx hb dX9_givePair_0 rfl (lv_at hl 0 rfl) ?_
  refine lv_iload_n hx hb dX9_givePair_1 rfl (lv_at hl 1 rfl) ?_
  obtain ⟨r2, σ3, hu1, hf⟩ := zb_some hf
  refine x_i B (fun nb a g hs Bz => va_runS (As := [.int a1]) (rest := [.ref (ad 65)]) ⟨hx, hb, hml, hown, hts⟩ (c_X9_isSubject l hu1 _ nb a g hs) (va_cwS 1 hts gX9_givePair_X9_isSubject rfl rfl rfl (by decide +kernel) ⟨Nat.le_of_ble_eq_true rfl, Nat.le_of_ble_eq_true rfl⟩) (z_preS Bz) rfl rfl hl.1 rfl (lv_room (Nat.le_of_ble_eq_true rfl)) dX9_givePair_2 ⟨Nat.le_of_ble_eq_true rfl, Nat.le_of_ble_eq_true rfl⟩) (fun H locs B => ?_)
  refine lv_if_eq (tgt := 27) hx hb dX9_givePair_5 (by decide) (fun hc => ?_) (fun hc => ?_)
  · have hf := zif_t hc hf
    refine lv_iconst (v := (1 : Int32)) hx hb dX9_givePair_27 (by decide) ?_
    exact L28  _ _ _ _ _ _ _ _ _ hf B (lv_sub hl [0, 1, 2, 3, 4] rfl)
  · have hf := zif_f hc hf
    refine lv_iload_n hx hb dX9_givePair_8 rfl (lv_at hl 2 rfl) ?_
    obtain ⟨r11, σ12, hu10, hf⟩ := zb_some hf
    refine x_i B (fun nb a g hs Bz => va_runS (As := [.int a2]) (rest := [.ref (ad 65)]) ⟨hx, hb, hml, hown, hts⟩ (c_X9_isSubject l hu10 _ nb a g hs) (va_cwS 1 hts gX9_givePair_X9_isSubject rfl rfl rfl (by decide +kernel) ⟨Nat.le_of_ble_eq_true rfl, Nat.le_of_ble_eq_true rfl⟩) (z_preS Bz) rfl rfl hl.1 rfl (lv_room (Nat.le_of_ble_eq_true rfl)) dX9_givePair_9 ⟨Nat.le_of_ble_eq_true rfl, Nat.le_of_ble_eq_true rfl⟩) (fun H locs B => ?_)
    refine lv_if_eq (tgt := 27) hx hb dX9_givePair_12 (by decide) (fun hc => ?_) (fun hc => ?_)
    · have hf := zif_t hc hf
      refine lv_iconst (v := (1 : Int32)) hx hb dX9_givePair_27 (by decide) ?_
      exact L28  _ _ _ _ _ _ _ _ _ hf B (lv_sub hl [0, 1, 2, 3, 4] rfl)
    · have hf := zif_f hc hf
      refine lv_aload_n hx hb dX9_givePair_15 rfl (lv_at hl 0 rfl) ?_
      refine lv_iload_n hx hb dX9_givePair_16 rfl (lv_at hl 3 rfl) ?_
      obtain ⟨r14, σ15, hu13, hf⟩ := zb_some hf
      refine x_i B (fun nb a g hs Bz => va_runV (As := [.int a3]) (rest := [.ref (ad 65)]) ⟨hx, hb, hml, hown, hts⟩ (c_X9_isPair l hu13 _ nb a g hs) (cwV 1 hts gX9_givePair_X9_isPair rfl rfl rfl (by decide +kernel) ⟨Nat.le_of_ble_eq_true rfl, Nat.le_of_ble_eq_true rfl⟩) (x_preV Bz (by decide) (fun _ => rfl) rfl) rfl rfl hl.1 rfl (lv_room (Nat.le_of_ble_eq_true rfl)) dX9_givePair_17 ⟨Nat.le_of_ble_eq_true rfl, Nat.le_of_ble_eq_true rfl⟩) (fun H locs B => ?_)
      refine lv_if_eq (tgt := 27) hx hb dX9_givePair_20 (by decide) (fun hc => ?_) (fun hc => ?_)
      · have hf := zif_t hc hf
        refine lv_iconst (v := (1 : Int32)) hx hb dX9_givePair_27 (by decide) ?_
        exact L28  _ _ _ _ _ _ _ _ _ hf B (lv_sub hl [0, 1, 2, 3, 4] rfl)
      · have hf := zif_f hc hf
        refine lv_iconst (v := (0 : Int32)) hx hb dX9_givePair_23 (by decide) ?_
        refine lv_goto (tgt := 28) hx hb dX9_givePair_24 (by decide) ?_
        exact L28  _ _ _ _ _ _ _ _ _ hf B (lv_sub hl [0, 1, 2, 3, 4] rfl)
theorem dX9_seal_0 : decode cX9_seal 0 = .ok (.aload_n 0, 1) := by decide +kernel
theorem dX9_seal_1 : decode cX9_seal 1 = .ok (.iload_n 1, 1) := by decide +kernel
theorem dX9_seal_2 : decode cX9_seal 2 = .ok (.invokestatic 78, 3) := by decide +kernel
theorem dX9_seal_5 : decode cX9_seal 5 = .ok (.ifCond .eq 23, 3) := by decide +kernel
theorem dX9_seal_8 : decode cX9_seal 8 = .ok (.aload_n 0, 1) := by decide +kernel
theorem dX9_seal_9 : decode cX9_seal 9 = .ok (.iload_n 2, 1) := by decide +kernel
theorem dX9_seal_10 : decode cX9_seal 10 = .ok (.invokevirtual 193, 3) := by decide +kernel
theorem dX9_seal_13 : decode cX9_seal 13 = .ok (.ifCond .eq 15, 3) := by decide +kernel
theorem dX9_seal_16 : decode cX9_seal 16 = .ok (.aload_n 0, 1) := by decide +kernel
theorem dX9_seal_17 : decode cX9_seal 17 = .ok (.iload_n 3, 1) := by decide +kernel
theorem dX9_seal_18 : decode cX9_seal 18 = .ok (.invokevirtual 118, 3) := by decide +kernel
theorem dX9_seal_21 : decode cX9_seal 21 = .ok (.ifCond .eq 7, 3) := by decide +kernel
theorem dX9_seal_24 : decode cX9_seal 24 = .ok (.iconst 0, 1) := by decide +kernel
theorem dX9_seal_25 : decode cX9_seal 25 = .ok (.goto 4, 3) := by decide +kernel
theorem dX9_seal_28 : decode cX9_seal 28 = .ok (.iconst 1, 1) := by decide +kernel
theorem dX9_seal_29 : decode cX9_seal 29 = .ok (.putfield 41, 3) := by decide +kernel
theorem dX9_seal_32 : decode cX9_seal 32 = .ok (.aload_n 0, 1) := by decide +kernel
theorem dX9_seal_33 : decode cX9_seal 33 = .ok (.getfield 41, 3) := by decide +kernel
theorem dX9_seal_36 : decode cX9_seal 36 = .ok (.ifCond .ne 76, 3) := by decide +kernel
theorem dX9_seal_39 : decode cX9_seal 39 = .ok (.aload_n 0, 1) := by decide +kernel
theorem dX9_seal_40 : decode cX9_seal 40 = .ok (.aload_n 0, 1) := by decide +kernel
theorem dX9_seal_41 : decode cX9_seal 41 = .ok (.getfield 9, 3) := by decide +kernel
theorem dX9_seal_44 : decode cX9_seal 44 = .ok (.sipush 555, 3) := by decide +kernel
theorem dX9_seal_47 : decode cX9_seal 47 = .ok (.iload_n 2, 1) := by decide +kernel
theorem dX9_seal_48 : decode cX9_seal 48 = .ok (.iadd, 1) := by decide +kernel
theorem dX9_seal_49 : decode cX9_seal 49 = .ok (.iaload, 1) := by decide +kernel
theorem dX9_seal_50 : decode cX9_seal 50 = .ok (.iload_n 1, 1) := by decide +kernel
theorem dX9_seal_51 : decode cX9_seal 51 = .ok (.invokestatic 59, 3) := by decide +kernel
theorem dX9_seal_54 : decode cX9_seal 54 = .ok (.ifCond .ne 13, 3) := by decide +kernel
theorem dX9_seal_57 : decode cX9_seal 57 = .ok (.aload_n 0, 1) := by decide +kernel
theorem dX9_seal_58 : decode cX9_seal 58 = .ok (.iconst 5, 1) := by decide +kernel
theorem dX9_seal_59 : decode cX9_seal 59 = .ok (.iload_n 2, 1) := by decide +kernel
theorem dX9_seal_60 : decode cX9_seal 60 = .ok (.iconst 2, 1) := by decide +kernel
theorem dX9_seal_61 : decode cX9_seal 61 = .ok (.invokevirtual 63, 3) := by decide +kernel
theorem dX9_seal_64 : decode cX9_seal 64 = .ok (.goto 45, 3) := by decide +kernel
theorem dX9_seal_67 : decode cX9_seal 67 = .ok (.aload_n 0, 1) := by decide +kernel
theorem dX9_seal_68 : decode cX9_seal 68 = .ok (.getfield 9, 3) := by decide +kernel
theorem dX9_seal_71 : decode cX9_seal 71 = .ok (.bipush 107, 2) := by decide +kernel
theorem dX9_seal_73 : decode cX9_seal 73 = .ok (.iload_n 3, 1) := by decide +kernel
theorem dX9_seal_74 : decode cX9_seal 74 = .ok (.iadd, 1) := by decide +kernel
theorem dX9_seal_75 : decode cX9_seal 75 = .ok (.iaload, 1) := by decide +kernel
theorem dX9_seal_76 : decode cX9_seal 76 = .ok (.iload_n 1, 1) := by decide +kernel
theorem dX9_seal_77 : decode cX9_seal 77 = .ok (.invokestatic 59, 3) := by decide +kernel
theorem dX9_seal_80 : decode cX9_seal 80 = .ok (.ifCond .ne 13, 3) := by decide +kernel
theorem dX9_seal_83 : decode cX9_seal 83 = .ok (.aload_n 0, 1) := by decide +kernel
theorem dX9_seal_84 : decode cX9_seal 84 = .ok (.iconst 1, 1) := by decide +kernel
theorem dX9_seal_85 : decode cX9_seal 85 = .ok (.iload_n 3, 1) := by decide +kernel
theorem dX9_seal_86 : decode cX9_seal 86 = .ok (.iconst 2, 1) := by decide +kernel
theorem dX9_seal_87 : decode cX9_seal 87 = .ok (.invokevirtual 63, 3) := by decide +kernel
theorem dX9_seal_90 : decode cX9_seal 90 = .ok (.goto 19, 3) := by decide +kernel
theorem dX9_seal_93 : decode cX9_seal 93 = .ok (.aload_n 0, 1) := by decide +kernel
theorem dX9_seal_94 : decode cX9_seal 94 = .ok (.getfield 9, 3) := by decide +kernel
theorem dX9_seal_97 : decode cX9_seal 97 = .ok (.iconst 3, 1) := by decide +kernel
theorem dX9_seal_98 : decode cX9_seal 98 = .ok (.iaload, 1) := by decide +kernel
theorem dX9_seal_99 : decode cX9_seal 99 = .ok (.bipush 12, 2) := by decide +kernel
theorem dX9_seal_101 : decode cX9_seal 101 = .ok (.if_icmp .ne 7, 3) := by decide +kernel
theorem dX9_seal_104 : decode cX9_seal 104 = .ok (.iconst 3, 1) := by decide +kernel
theorem dX9_seal_105 : decode cX9_seal 105 = .ok (.goto 4, 3) := by decide +kernel
theorem dX9_seal_108 : decode cX9_seal 108 = .ok (.iconst 0, 1) := by decide +kernel
theorem dX9_seal_109 : decode cX9_seal 109 = .ok (.putfield 41, 3) := by decide +kernel
theorem dX9_seal_112 : decode cX9_seal 112 = .ok (.aload_n 0, 1) := by decide +kernel
theorem dX9_seal_113 : decode cX9_seal 113 = .ok (.getfield 41, 3) := by decide +kernel
theorem dX9_seal_116 : decode cX9_seal 116 = .ok (.ifCond .eq 5, 3) := by decide +kernel
theorem dX9_seal_119 : decode cX9_seal 119 = .ok (.iconst 0, 1) := by decide +kernel
theorem dX9_seal_120 : decode cX9_seal 120 = .ok (.ireturn, 1) := by decide +kernel
theorem dX9_seal_121 : decode cX9_seal 121 = .ok (.aload_n 0, 1) := by decide +kernel
theorem dX9_seal_122 : decode cX9_seal 122 = .ok (.getfield 9, 3) := by decide +kernel
theorem dX9_seal_125 : decode cX9_seal 125 = .ok (.iconst 3, 1) := by decide +kernel
theorem dX9_seal_126 : decode cX9_seal 126 = .ok (.iaload, 1) := by decide +kernel
theorem dX9_seal_127 : decode cX9_seal 127 = .ok (.istore 4, 2) := by decide +kernel
theorem dX9_seal_129 : decode cX9_seal 129 = .ok (.aload_n 0, 1) := by decide +kernel
theorem dX9_seal_130 : decode cX9_seal 130 = .ok (.getfield 9, 3) := by decide +kernel
theorem dX9_seal_133 : decode cX9_seal 133 = .ok (.sipush 563, 3) := by decide +kernel
theorem dX9_seal_136 : decode cX9_seal 136 = .ok (.iload 4, 2) := by decide +kernel
theorem dX9_seal_138 : decode cX9_seal 138 = .ok (.iadd, 1) := by decide +kernel
theorem dX9_seal_139 : decode cX9_seal 139 = .ok (.iload_n 2, 1) := by decide +kernel
theorem dX9_seal_140 : decode cX9_seal 140 = .ok (.iastore, 1) := by decide +kernel
theorem dX9_seal_141 : decode cX9_seal 141 = .ok (.aload_n 0, 1) := by decide +kernel
theorem dX9_seal_142 : decode cX9_seal 142 = .ok (.getfield 9, 3) := by decide +kernel
theorem dX9_seal_145 : decode cX9_seal 145 = .ok (.sipush 575, 3) := by decide +kernel
theorem dX9_seal_148 : decode cX9_seal 148 = .ok (.iload 4, 2) := by decide +kernel
theorem dX9_seal_150 : decode cX9_seal 150 = .ok (.iadd, 1) := by decide +kernel
theorem dX9_seal_151 : decode cX9_seal 151 = .ok (.iload_n 3, 1) := by decide +kernel
theorem dX9_seal_152 : decode cX9_seal 152 = .ok (.iastore, 1) := by decide +kernel
theorem dX9_seal_153 : decode cX9_seal 153 = .ok (.aload_n 0, 1) := by decide +kernel
theorem dX9_seal_154 : decode cX9_seal 154 = .ok (.getfield 9, 3) := by decide +kernel
theorem dX9_seal_157 : decode cX9_seal 157 = .ok (.sipush 587, 3) := by decide +kernel
theorem dX9_seal_160 : decode cX9_seal 160 = .ok (.iload 4, 2) := by decide +kernel
theorem dX9_seal_162 : decode cX9_seal 162 = .ok (.iadd, 1) := by decide +kernel
theorem dX9_seal_163 : decode cX9_seal 163 = .ok (.iconst 1, 1) := by decide +kernel
theorem dX9_seal_164 : decode cX9_seal 164 = .ok (.iload_n 1, 1) := by decide +kernel
theorem dX9_seal_165 : decode cX9_seal 165 = .ok (.ishl, 1) := by decide +kernel
theorem dX9_seal_166 : decode cX9_seal 166 = .ok (.iastore, 1) := by decide +kernel
theorem dX9_seal_167 : decode cX9_seal 167 = .ok (.aload_n 0, 1) := by decide +kernel
theorem dX9_seal_168 : decode cX9_seal 168 = .ok (.getfield 9, 3) := by decide +kernel
theorem dX9_seal_171 : decode cX9_seal 171 = .ok (.iconst 3, 1) := by decide +kernel
theorem dX9_seal_172 : decode cX9_seal 172 = .ok (.dup2, 1) := by decide +kernel
theorem dX9_seal_173 : decode cX9_seal 173 = .ok (.iaload, 1) := by decide +kernel
theorem dX9_seal_174 : decode cX9_seal 174 = .ok (.iconst 1, 1) := by decide +kernel
theorem dX9_seal_175 : decode cX9_seal 175 = .ok (.iadd, 1) := by decide +kernel
theorem dX9_seal_176 : decode cX9_seal 176 = .ok (.iastore, 1) := by decide +kernel
theorem dX9_seal_177 : decode cX9_seal 177 = .ok (.iload 4, 2) := by decide +kernel
theorem dX9_seal_179 : decode cX9_seal 179 = .ok (.ireturn, 1) := by decide +kernel
set_option maxRecDepth 20000 in
theorem ggX9_seal_X9_isSubject : GoodIn wsX9_seal wsX9_isSubject := goodIn_r _ [6, 7, 8, 5, 9] (by decide +kernel) (by decide +kernel)
set_option maxRecDepth 20000 in
theorem gX9_seal_X9_isSubject : GoodIn wsX9_seal (va_wsS RX9 78 yX9_isSubject wsX9_isSubject) := goodIn_app (goodIn_of _ (by decide +kernel)) ggX9_seal_X9_isSubject
set_option maxRecDepth 20000 in
theorem ggX9_seal_X9_has : GoodIn wsX9_seal wsX9_has := goodIn_r _ [20] (by decide +kernel) (by decide +kernel)
set_option maxRecDepth 20000 in
theorem gX9_seal_X9_has : GoodIn wsX9_seal (va_wsS RX9 59 yX9_has wsX9_has) := goodIn_app (goodIn_of _ (by decide +kernel)) ggX9_seal_X9_has
set_option maxRecDepth 20000 in
theorem ggX9_seal_X9_reports : GoodIn wsX9_seal wsX9_reports := goodIn_ca (goodIn_r _ [24, 25, 26, 27, 28, 5, 29, 30, 31, 32, 33, 34, 35, 36, 37, 38, 39, 40, 41, 42, 43, 44, 45, 46, 47, 48, 49, 50, 51] (by decide +kernel) (by decide +kernel)) (goodIn_sub (fun _ h => List.mem_cons_of_mem _ (List.mem_append_right _ h)) (by decide +kernel))
set_option maxRecDepth 20000 in
theorem gX9_seal_X9_reports : GoodIn wsX9_seal (wsV RX9 63 RX9 yX9_reports wsX9_reports) := goodIn_app (goodIn_of _ (by decide +kernel)) ggX9_seal_X9_reports
set_option maxRecDepth 20000 in
theorem ggX9_seal_X9_isPair : GoodIn wsX9_seal wsX9_isPair := goodIn_ca (goodIn_r _ [13, 2, 7, 8, 5, 9, 32, 33, 34, 35, 36, 37, 38, 39, 40, 41, 42, 43, 44, 45, 46, 47, 48, 49, 50, 51] (by decide +kernel) (by decide +kernel)) (goodIn_sub (fun _ h => List.mem_cons_of_mem _ (List.mem_append_right _ h)) (by decide +kernel))
set_option maxRecDepth 20000 in
theorem gX9_seal_X9_isPair : GoodIn wsX9_seal (wsV RX9 193 RX9 yX9_isPair wsX9_isPair) := goodIn_app (goodIn_of _ (by decide +kernel)) ggX9_seal_X9_isPair
set_option maxRecDepth 20000 in
theorem ggX9_seal_X9_isToken : GoodIn wsX9_seal wsX9_isToken := goodIn_ca (goodIn_r _ [17, 2, 7, 8, 5, 9, 32, 33, 34, 35, 36, 37, 38, 39, 40, 41, 42, 43, 44, 45, 46, 47, 48, 49, 50, 51] (by decide +kernel) (by decide +kernel)) (goodIn_sub (fun _ h => List.mem_cons_of_mem _ (List.mem_append_right _ h)) (by decide +kernel))
set_option maxRecDepth 20000 in
theorem gX9_seal_X9_isToken : GoodIn wsX9_seal (wsV RX9 118 RX9 yX9_isToken wsX9_isToken) := goodIn_app (goodIn_of _ (by decide +kernel)) ggX9_seal_X9_isToken
def rm_X9_seal : Room := { frames := 3, cells := 0, slots := 0, locals := 61 }
set_option maxHeartbeats 4000000 in
set_option maxRecDepth 100000 in
theorem c_X9_seal (l : Launch) {G : zG} {ad : Nat → Nat} {σ σ' : zs} {a1 a2 a3 : Int32} {r : Int32} (hf : f_X9_seal σ a1 a2 a3 = some (r, σ')) : xMi l yX9_seal wsX9_seal rm_X9_seal G ad σ [.ref (ad 65), .int a1, .int a2, .int a3] r σ' := by
  intro sz nb a g hs
  refine Met.ofW (cc := cX9_seal) (maxL := 5) (ret := (some .int)) (by decide) rfl ?_
  intro p e s m args below meth c s₁ B hml hv
  obtain ⟨rfl, hsz, hv⟩ := hv
  have hx := B.exec
  have hb := B.bytes
  have hr := B.returns
  have hts := atoms_spec (ws := wsX9_seal) B.pre
  have hown : s.vm.findClass RX9 = some m.cls := findClass_of_methodNamed B.named
  have hlocks := B.notSynchronized
  subst hsz
  have B := xB_start hs hv
  have hinRX9 : ∀ w ∈ wsX90, w ∈ wsX9_seal := by decide +kernel
  have hl := lv_entry ([.ref (ad 65), .int a1, .int a2, .int a3]) (n := 5) (Nat.le_of_ble_eq_true rfl)
  rw [lg_entry_eq]
  generalize (lg_sl ([.ref (ad 65), .int a1, .int a2, .int a3]) ++ List.replicate (5 - (lg_sl ([.ref (ad 65), .int a1, .int a2, .int a3])).length) Slot.unset).toArray = ls at hl ⊢
  have hl : lv_has ls 5 [(0, .ref (ad 65)), (1, .int a1), (2, .int a2), (3, .int a3)] := hl
  generalize hAe : xA ad a s.heap.size = A at B ⊢
  have L112 : ∀ (σ : zs) (v1 : Int32) (v2 : Int32) (v3 : Int32) (H : Heap) (locs : List Loc) (ls : Array Slot), f_X9_seal_112 σ v1 v2 v3 = some (r, σ') → xB A s G ad σ H locs → lv_has ls 5 [(0, .ref (ad 65)), (1, .int v1), (2, .int v2), (3, .int v3)] → W p l e (headSpec wsX9_seal rm_X9_seal).room s m ([.ref (ad 65), .int a1, .int a2, .int a3] : List Value).toArray below meth c H locs 0 0 (MQ below (va_Qi (fun r' (u : xV) => r' = r ∧ xQ σ' u) (xPost G ad σ' A) A) ([.ref (ad 65), .int a1, .int a2, .int a3] : List Value).toArray s 0 0 A) (F0 m 112 ls []) := by
    intro σ v1 v2 v3 H locs ls hf B hl
    unfold f_X9_seal_112 at hf
    refine lv_aload_n hx hb dX9_seal_112 rfl (lv_at hl 0 rfl) ?_
    refine x_geti hx hb hts hinRX9 hown B 65 3 (by decide) (fun _ => rfl) rfl rfl (by decide) (by decide +kernel) rfl dX9_seal_113 ?_
    refine lv_if_eq (tgt := 121) hx hb dX9_seal_116 (by decide) (fun hc => ?_) (fun hc => ?_)
    · have hf := zif_t hc hf
      refine lv_aload_n hx hb dX9_seal_121 rfl (lv_at hl 0 rfl) ?_
      refine x_getr hx hb hts hinRX9 hown B 65 0 66 (by decide) (by decide) (fun _ => rfl) rfl rfl (by decide) (by decide +kernel) rfl dX9_seal_122 ?_
      refine lv_iconst (v := (3 : Int32)) hx hb dX9_seal_125 (by decide) ?_
      obtain ⟨hg, hf⟩ := zg_some hf
      refine x_iald hx hb B 66 (by decide) (fun _ => rfl) (zin_ok hg) dX9_seal_126 ?_
      refine lv_istore (lv' := [(4, .int (σ 66 (3 : Int32).toNatClampNeg)), (0, .ref (ad 65)), (1, .int v1), (2, .int v2), (3, .int v3)]) hx hb dX9_seal_127 hl (by decide) rfl (fun ls hl => ?_)
      refine lv_aload_n hx hb dX9_seal_129 rfl (lv_at hl 1 rfl) ?_
      refine x_getr hx hb hts hinRX9 hown B 65 0 66 (by decide) (by decide) (fun _ => rfl) rfl rfl (by decide) (by decide +kernel) rfl dX9_seal_130 ?_
      refine lv_sipush (v := (563 : Int32)) hx hb dX9_seal_133 (by decide) ?_
      refine lv_iload hx hb dX9_seal_136 (lv_at hl 0 rfl) ?_
      refine lv_iadd hx hb dX9_seal_138 ?_
      refine lv_iload_n hx hb dX9_seal_139 rfl (lv_at hl 3 rfl) ?_
      obtain ⟨hg, hf⟩ := zg_some hf
      refine x_iast hx hb B 66 (by decide) (by decide) (fun _ => rfl) (zin_ok hg) dX9_seal_140 (fun H locs B => ?_)
      refine lv_aload_n hx hb dX9_seal_141 rfl (lv_at hl 1 rfl) ?_
      refine x_getr hx hb hts hinRX9 hown B 65 0 66 (by decide) (by decide) (fun _ => rfl) rfl rfl (by decide) (by decide +kernel) rfl dX9_seal_142 ?_
      refine lv_sipush (v := (575 : Int32)) hx hb dX9_seal_145 (by decide) ?_
      refine lv_iload hx hb dX9_seal_148 (lv_at hl 0 rfl) ?_
      refine lv_iadd hx hb dX9_seal_150 ?_
      refine lv_iload_n hx hb dX9_seal_151 rfl (lv_at hl 4 rfl) ?_
      obtain ⟨hg, hf⟩ := zg_some hf
      refine x_iast hx hb B 66 (by decide) (by decide) (fun _ => rfl) (zin_ok hg) dX9_seal_152 (fun H locs B => ?_)
      refine lv_aload_n hx hb dX9_seal_153 rfl (lv_at hl 1 rfl) ?_
      refine x_getr hx hb hts hinRX9 hown B 65 0 66 (by decide) (by decide) (fun _ => rfl) rfl rfl (by decide) (by decide +kernel) rfl dX9_seal_154 ?_
      refine lv_sipush (v := (587 : Int32)) hx hb dX9_seal_157 (by decide) ?_
      refine lv_iload hx hb dX9_seal_160 (lv_at hl 0 rfl) ?_
      refine lv_iadd hx hb dX9_seal_162 ?_
      refine lv_iconst (v := (1 : Int32)) hx hb dX9_seal_163 (by decide) ?_
      refine lv_iload_n hx hb dX9_seal_164 rfl (lv_at hl 2 rfl) ?_
      refine lv_ishl hx hb dX9_seal_165 ?_
      obtain ⟨hg, hf⟩ := zg_some hf
      refine x_iast hx hb B 66 (by decide) (by decide) (fun _ => rfl) (zin_ok hg) dX9_seal_166 (fun H locs B => ?_)
      refine lv_aload_n hx hb dX9_seal_167 rfl (lv_at hl 1 rfl) ?_
      refine x_getr hx hb hts hinRX9 hown B 65 0 66 (by decide) (by decide) (fun _ => rfl) rfl rfl (by decide) (by decide +kernel) rfl dX9_seal_168 ?_
      refine lv_iconst (v := (3 : Int32)) hx hb dX9_seal_171 (by decide) ?_
      refine lv_dup2_11 hx hb dX9_seal_172 rfl rfl ?_
      obtain ⟨hg, hf⟩ := zg_some hf
      refine x_iald hx hb B 66 (by decide) (fun _ => rfl) (zin_ok hg) dX9_seal_173 ?_
      refine lv_iconst (v := (1 : Int32)) hx hb dX9_seal_174 (by decide) ?_
      refine lv_iadd hx hb dX9_seal_175 ?_
      obtain ⟨hg, hf⟩ := zg_some hf
      refine x_iast hx hb B 66 (by decide) (by decide) (fun _ => rfl) (zin_ok hg) dX9_seal_176 (fun H locs B => ?_)
      refine lv_iload hx hb dX9_seal_177 (lv_at hl 0 rfl) ?_
      refine W.widen (k := 0) (n := 0) (Nat.le_of_ble_eq_true rfl) (Nat.le_of_ble_eq_true rfl) ?_
      exact x_iret hx hb hr rfl hlocks B hf dX9_seal_179
    · have hf := zif_f hc hf
      refine lv_iconst (v := (0 : Int32)) hx hb dX9_seal_119 (by decide) ?_
      refine W.widen (k := 0) (n := 0) (Nat.le_of_ble_eq_true rfl) (Nat.le_of_ble_eq_true rfl) ?_
      exact x_iret hx hb hr rfl hlocks B hf dX9_seal_120
  have L29 : ∀ (σ : zs) (v1 : Int32) (v2 : Int32) (v3 : Int32) (s0 : Int32) (H : Heap) (locs : List Loc) (ls : Array Slot), f_X9_seal_29 σ v1 v2 v3 s0 = some (r, σ') → xB A s G ad σ H locs → lv_has ls 5 [(0, .ref (ad 65)), (1, .int v1), (2, .int v2), (3, .int v3)] → W p l e (headSpec wsX9_seal rm_X9_seal).room s m ([.ref (ad 65), .int a1, .int a2, .int a3] : List Value).toArray below meth c H locs 0 0 (MQ below (va_Qi (fun r' (u : xV) => r' = r ∧ xQ σ' u) (xPost G ad σ' A) A) ([.ref (ad 65), .int a1, .int a2, .int a3] : List Value).toArray s 0 0 A) (F0 m 29 ls [.int s0, .ref (ad 65)]) := by
    intro σ v1 v2 v3 s0 H locs ls hf B hl
    unfold f_X9_seal_29 at hf
    refine x_puti hx hb hts hinRX9 hown tyX9 tyX9_ok nmX9 B 65 3 (by decide) (by decide) (fun _ => rfl) rfl rfl (by decide) (by decide +kernel) rfl rfl rfl rfl dX9_seal_29 (fun H locs B => ?_)
    refine lv_aload_n hx hb dX9_seal_32 rfl (lv_at hl 0 rfl) ?_
    refine x_geti hx hb hts hinRX9 hown B 65 3 (by decide) (fun _ => rfl) rfl rfl (by decide) (by decide +kernel) rfl dX9_seal_33 ?_
    refine lv_if_ne (tgt := 112) hx hb dX9_seal_36 (by decide) (fun hc => ?_) (fun hc => ?_)
    · have hf := zif_f hc hf
      exact L112  _ _ _ _ _ _ _ hf B (lv_sub hl [0, 1, 2, 3] rfl)
    · have hf := zif_t hc hf
      refine lv_aload_n hx hb dX9_seal_39 rfl (lv_at hl 0 rfl) ?_
      refine lv_aload_n hx hb dX9_seal_40 rfl (lv_at hl 0 rfl) ?_
      refine x_getr hx hb hts hinRX9 hown B 65 0 66 (by decide) (by decide) (fun _ => rfl) rfl rfl (by decide) (by decide +kernel) rfl dX9_seal_41 ?_
      refine lv_sipush (v := (555 : Int32)) hx hb dX9_seal_44 (by decide) ?_
      refine lv_iload_n hx hb dX9_seal_47 rfl (lv_at hl 2 rfl) ?_
      refine lv_iadd hx hb dX9_seal_48 ?_
      obtain ⟨hg, hf⟩ := zg_some hf
      refine x_iald hx hb B 66 (by decide) (fun _ => rfl) (zin_ok hg) dX9_seal_49 ?_
      refine lv_iload_n hx hb dX9_seal_50 rfl (lv_at hl 1 rfl) ?_
      obtain ⟨r5, σ6, hu4, hf⟩ := zb_some hf
      refine x_i B (fun nb a g hs Bz => va_runS (As := [.int ((zp σ 65 3 s0) 66 ((555 : Int32) + v2).toNatClampNeg), .int v1]) (rest := [.ref (ad 65)]) ⟨hx, hb, hml, hown, hts⟩ (c_X9_has l hu4 _ nb a g hs) (va_cwS 2 hts gX9_seal_X9_has rfl rfl rfl (by decide +kernel) ⟨Nat.le_of_ble_eq_true rfl, Nat.le_of_ble_eq_true rfl⟩) (z_preS Bz) rfl rfl hl.1 rfl (lv_room (Nat.le_of_ble_eq_true rfl)) dX9_seal_51 ⟨Nat.le_of_ble_eq_true rfl, Nat.le_of_ble_eq_true rfl⟩) (fun H locs B => ?_)
      refine lv_if_ne (tgt := 67) hx hb dX9_seal_54 (by decide) (fun hc => ?_) (fun hc => ?_)
      · have hf := zif_f hc hf
        refine lv_aload_n hx hb dX9_seal_67 rfl (lv_at hl 0 rfl) ?_
        refine x_getr hx hb hts hinRX9 hown B 65 0 66 (by decide) (by decide) (fun _ => rfl) rfl rfl (by decide) (by decide +kernel) rfl dX9_seal_68 ?_
        refine lv_bipush (v := (107 : Int32)) hx hb dX9_seal_71 (by decide) ?_
        refine lv_iload_n hx hb dX9_seal_73 rfl (lv_at hl 3 rfl) ?_
        refine lv_iadd hx hb dX9_seal_74 ?_
        obtain ⟨hg, hf⟩ := zg_some hf
        refine x_iald hx hb B 66 (by decide) (fun _ => rfl) (zin_ok hg) dX9_seal_75 ?_
        refine lv_iload_n hx hb dX9_seal_76 rfl (lv_at hl 1 rfl) ?_
        obtain ⟨r8, σ9, hu7, hf⟩ := zb_some hf
        refine x_i B (fun nb a g hs Bz => va_runS (As := [.int (σ6 66 ((107 : Int32) + v3).toNatClampNeg), .int v1]) (rest := [.ref (ad 65)]) ⟨hx, hb, hml, hown, hts⟩ (c_X9_has l hu7 _ nb a g hs) (va_cwS 2 hts gX9_seal_X9_has rfl rfl rfl (by decide +kernel) ⟨Nat.le_of_ble_eq_true rfl, Nat.le_of_ble_eq_true rfl⟩) (z_preS Bz) rfl rfl hl.1 rfl (lv_room (Nat.le_of_ble_eq_true rfl)) dX9_seal_77 ⟨Nat.le_of_ble_eq_true rfl, Nat.le_of_ble_eq_true rfl⟩) (fun H locs B => ?_)
        refine lv_if_ne (tgt := 93) hx hb dX9_seal_80 (by decide) (fun hc => ?_) (fun hc => ?_)
        · have hf := zif_f hc hf
          refine lv_aload_n hx hb dX9_seal_93 rfl (lv_at hl 0 rfl) ?_
          refine x_getr hx hb hts hinRX9 hown B 65 0 66 (by decide) (by decide) (fun _ => rfl) rfl rfl (by decide) (by decide +kernel) rfl dX9_seal_94 ?_
          refine lv_iconst (v := (3 : Int32)) hx hb dX9_seal_97 (by decide) ?_
          obtain ⟨hg, hf⟩ := zg_some hf
          refine x_iald hx hb B 66 (by decide) (fun _ => rfl) (zin_ok hg) dX9_seal_98 ?_
          refine lv_bipush (v := (12 : Int32)) hx hb dX9_seal_99 (by decide) ?_
          refine lv_icmp_ne (tgt := 108) hx hb dX9_seal_101 (by decide) (fun hc => ?_) (fun hc => ?_)
          · have hf := zif_f hc hf
            refine lv_iconst (v := (0 : Int32)) hx hb dX9_seal_108 (by decide) ?_
            refine x_puti hx hb hts hinRX9 hown tyX9 tyX9_ok nmX9 B 65 3 (by decide) (by decide) (fun _ => rfl) rfl rfl (by decide) (by decide +kernel) rfl rfl rfl rfl dX9_seal_109 (fun H locs B => ?_)
            exact L112  _ _ _ _ _ _ _ hf B (lv_sub hl [0, 1, 2, 3] rfl)
          · have hf := zif_t hc hf
            refine lv_iconst (v := (3 : Int32)) hx hb dX9_seal_104 (by decide) ?_
            refine lv_goto (tgt := 109) hx hb dX9_seal_105 (by decide) ?_
            refine x_puti hx hb hts hinRX9 hown tyX9 tyX9_ok nmX9 B 65 3 (by decide) (by decide) (fun _ => rfl) rfl rfl (by decide) (by decide +kernel) rfl rfl rfl rfl dX9_seal_109 (fun H locs B => ?_)
            exact L112  _ _ _ _ _ _ _ hf B (lv_sub hl [0, 1, 2, 3] rfl)
        · have hf := zif_t hc hf
          refine lv_aload_n hx hb dX9_seal_83 rfl (lv_at hl 0 rfl) ?_
          refine lv_iconst (v := (1 : Int32)) hx hb dX9_seal_84 (by decide) ?_
          refine lv_iload_n hx hb dX9_seal_85 rfl (lv_at hl 3 rfl) ?_
          refine lv_iconst (v := (2 : Int32)) hx hb dX9_seal_86 (by decide) ?_
          obtain ⟨r11, σ12, hu10, hf⟩ := zb_some hf
          refine x_i B (fun nb a g hs Bz => va_runV (As := [.int (1 : Int32), .int v3, .int (2 : Int32)]) (rest := [.ref (ad 65)]) ⟨hx, hb, hml, hown, hts⟩ (c_X9_reports l hu10 _ nb a g hs) (cwV 3 hts gX9_seal_X9_reports rfl rfl rfl (by decide +kernel) ⟨Nat.le_of_ble_eq_true rfl, Nat.le_of_ble_eq_true rfl⟩) (x_preV Bz (by decide) (fun _ => rfl) rfl) rfl rfl hl.1 rfl (lv_room (Nat.le_of_ble_eq_true rfl)) dX9_seal_87 ⟨Nat.le_of_ble_eq_true rfl, Nat.le_of_ble_eq_true rfl⟩) (fun H locs B => ?_)
          refine lv_goto (tgt := 109) hx hb dX9_seal_90 (by decide) ?_
          refine x_puti hx hb hts hinRX9 hown tyX9 tyX9_ok nmX9 B 65 3 (by decide) (by decide) (fun _ => rfl) rfl rfl (by decide) (by decide +kernel) rfl rfl rfl rfl dX9_seal_109 (fun H locs B => ?_)
          exact L112  _ _ _ _ _ _ _ hf B (lv_sub hl [0, 1, 2, 3] rfl)
      · have hf := zif_t hc hf
        refine lv_aload_n hx hb dX9_seal_57 rfl (lv_at hl 0 rfl) ?_
        refine lv_iconst (v := (5 : Int32)) hx hb dX9_seal_58 (by decide) ?_
        refine lv_iload_n hx hb dX9_seal_59 rfl (lv_at hl 2 rfl) ?_
        refine lv_iconst (v := (2 : Int32)) hx hb dX9_seal_60 (by decide) ?_
        obtain ⟨r14, σ15, hu13, hf⟩ := zb_some hf
        refine x_i B (fun nb a g hs Bz => va_runV (As := [.int (5 : Int32), .int v2, .int (2 : Int32)]) (rest := [.ref (ad 65)]) ⟨hx, hb, hml, hown, hts⟩ (c_X9_reports l hu13 _ nb a g hs) (cwV 3 hts gX9_seal_X9_reports rfl rfl rfl (by decide +kernel) ⟨Nat.le_of_ble_eq_true rfl, Nat.le_of_ble_eq_true rfl⟩) (x_preV Bz (by decide) (fun _ => rfl) rfl) rfl rfl hl.1 rfl (lv_room (Nat.le_of_ble_eq_true rfl)) dX9_seal_61 ⟨Nat.le_of_ble_eq_true rfl, Nat.le_of_ble_eq_true rfl⟩) (fun H locs B => ?_)
        refine lv_goto (tgt := 109) hx hb dX9_seal_64 (by decide) ?_
        refine x_puti hx hb hts hinRX9 hown tyX9 tyX9_ok nmX9 B 65 3 (by decide) (by decide) (fun _ => rfl) rfl rfl (by decide) (by decide +kernel) rfl rfl rfl rfl dX9_seal_109 (fun H locs B => ?_)
        exact L112  _ _ _ _ _ _ _ hf B (lv_sub hl [0, 1, 2, 3] rfl)
  unfold f_X9_seal at hf
  refine lv_aload_n hx hb dX9_seal_0 rfl (lv_at hl 0 rfl) ?_
  refine lv_iload_n hx hb dX9_seal_1 rfl (lv_at hl 1 rfl) ?_
  obtain ⟨r2, σ3, hu1, hf⟩ := zb_some hf
  refine x_i B (fun nb a g hs Bz => va_runS (As := [.int a1]) (rest := [.ref (ad 65)]) ⟨hx, hb, hml, hown, hts⟩ (c_X9_isSubject l hu1 _ nb a g hs) (va_cwS 1 hts gX9_seal_X9_isSubject rfl rfl rfl (by decide +kernel) ⟨Nat.le_of_ble_eq_true rfl, Nat.le_of_ble_eq_true rfl⟩) (z_preS Bz) rfl rfl hl.1 rfl (lv_room (Nat.le_of_ble_eq_true rfl)) dX9_seal_2 ⟨Nat.le_of_ble_eq_true rfl, Nat.le_of_ble_eq_true rfl⟩) (fun H locs B => ?_)
  refine lv_if_eq (tgt := 28) hx hb dX9_seal_5 (by decide) (fun hc => ?_) (fun hc => ?_)
  · have hf := zif_t hc hf
    refine lv_iconst (v := (1 : Int32)) hx hb dX9_seal_28 (by decide) ?_
    exact L29  _ _ _ _ _ _ _ _ hf B (lv_sub hl [0, 1, 2, 3] rfl)
  · have hf := zif_f hc hf
    refine lv_aload_n hx hb dX9_seal_8 rfl (lv_at hl 0 rfl) ?_
    refine lv_iload_n hx hb dX9_seal_9 rfl (lv_at hl 2 rfl) ?_
    obtain ⟨r17, σ18, hu16, hf⟩ := zb_some hf
    refine x_i B (fun nb a g hs Bz => va_runV (As := [.int a2]) (rest := [.ref (ad 65)]) ⟨hx, hb, hml, hown, hts⟩ (c_X9_isPair l hu16 _ nb a g hs) (cwV 1 hts gX9_seal_X9_isPair rfl rfl rfl (by decide +kernel) ⟨Nat.le_of_ble_eq_true rfl, Nat.le_of_ble_eq_true rfl⟩) (x_preV Bz (by decide) (fun _ => rfl) rfl) rfl rfl hl.1 rfl (lv_room (Nat.le_of_ble_eq_true rfl)) dX9_seal_10 ⟨Nat.le_of_ble_eq_true rfl, Nat.le_of_ble_eq_true rfl⟩) (fun H locs B => ?_)
    refine lv_if_eq (tgt := 28) hx hb dX9_seal_13 (by decide) (fun hc => ?_) (fun hc => ?_)
    · have hf := zif_t hc hf
      refine lv_iconst (v := (1 : Int32)) hx hb dX9_seal_28 (by decide) ?_
      exact L29  _ _ _ _ _ _ _ _ hf B (lv_sub hl [0, 1, 2, 3] rfl)
    · have hf := zif_f hc hf
      refine lv_aload_n hx hb dX9_seal_16 rfl (lv_at hl 0 rfl) ?_
      refine lv_iload_n hx hb dX9_seal_17 rfl (lv_at hl 3 rfl) ?_
      obtain ⟨r20, σ21, hu19, hf⟩ := zb_some hf
      refine x_i B (fun nb a g hs Bz => va_runV (As := [.int a3]) (rest := [.ref (ad 65)]) ⟨hx, hb, hml, hown, hts⟩ (c_X9_isToken l hu19 _ nb a g hs) (cwV 1 hts gX9_seal_X9_isToken rfl rfl rfl (by decide +kernel) ⟨Nat.le_of_ble_eq_true rfl, Nat.le_of_ble_eq_true rfl⟩) (x_preV Bz (by decide) (fun _ => rfl) rfl) rfl rfl hl.1 rfl (lv_room (Nat.le_of_ble_eq_true rfl)) dX9_seal_18 ⟨Nat.le_of_ble_eq_true rfl, Nat.le_of_ble_eq_true rfl⟩) (fun H locs B => ?_)
      refine lv_if_eq (tgt := 28) hx hb dX9_seal_21 (by decide) (fun hc => ?_) (fun hc => ?_)
      · have hf := zif_t hc hf
        refine lv_iconst (v := (1 : Int32)) hx hb dX9_seal_28 (by decide) ?_
        exact L29  _ _ _ _ _ _ _ _ hf B (lv_sub hl [0, 1, 2, 3] rfl)
      · have hf := zif_f hc hf
        refine lv_iconst (v := (0 : Int32)) hx hb dX9_seal_24 (by decide) ?_
        refine lv_goto (tgt := 29) hx hb dX9_seal_25 (by decide) ?_
        exact L29  _ _ _ _ _ _ _ _ hf B (lv_sub hl [0, 1, 2, 3] rfl)
