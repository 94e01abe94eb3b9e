theorem dL_object_0 : decode cL_object 0 = .ok (.aload_n 3, 1) := by decide +kernel
theorem dL_object_1 : decode cL_object 1 = .ok (.iconst 0, 1) := by decide +kernel
theorem dL_object_2 : decode cL_object 2 = .ok (.aload_n 0, 1) := by decide +kernel
theorem dL_object_3 : decode cL_object 3 = .ok (.iload_n 1, 1) := by decide +kernel
theorem dL_object_4 : decode cL_object 4 = .ok (.iload_n 2, 1) := by decide +kernel
theorem dL_object_5 : decode cL_object 5 = .ok (.invokevirtual 68, 3) := by decide +kernel
theorem dL_object_8 : decode cL_object 8 = .ok (.i2l, 1) := by decide +kernel
theorem dL_object_9 : decode cL_object 9 = .ok (.lastore, 1) := by decide +kernel
theorem dL_object_10 : decode cL_object 10 = .ok (.goto 11, 3) := by decide +kernel
theorem dL_object_13 : decode cL_object 13 = .ok (.astore 4, 2) := by decide +kernel
theorem dL_object_15 : decode cL_object 15 = .ok (.iconst 1, 1) := by decide +kernel
theorem dL_object_16 : decode cL_object 16 = .ok (.ireturn, 1) := by decide +kernel
theorem dL_object_17 : decode cL_object 17 = .ok (.astore 4, 2) := by decide +kernel
theorem dL_object_19 : decode cL_object 19 = .ok (.iconst 2, 1) := by decide +kernel
theorem dL_object_20 : decode cL_object 20 = .ok (.ireturn, 1) := by decide +kernel
theorem dL_object_21 : decode cL_object 21 = .ok (.iconst 0, 1) := by decide +kernel
theorem dL_object_22 : decode cL_object 22 = .ok (.ireturn, 1) := by decide +kernel
set_option maxRecDepth 20000 in
theorem ggL_object_X8_object : GoodIn wsL_object wsX8_object := goodIn_ca (goodIn_ca (goodIn_ca (goodIn_r _ [7, 8, 9, 10, 11, 12, 13, 6, 14, 15, 16, 17, 18, 19, 20, 21, 22, 23, 24, 25, 26, 27, 28, 29, 30, 31, 32, 33, 34, 35, 36, 37, 38, 39, 40, 41, 42, 43, 44, 45, 46, 47, 48, 49, 50, 51, 52, 53, 54, 55, 56, 57, 58, 59] (by decide +kernel) (by decide +kernel)) (goodIn_sub (fun _ h => List.mem_cons_of_mem _ (List.mem_append_left _ (List.mem_append_left _ (List.mem_append_right _ h)))) (by decide +kernel))) (goodIn_sub (fun _ h => List.mem_cons_of_mem _ (List.mem_append_left _ (List.mem_append_right _ h))) (by decide +kernel))) (goodIn_sub (fun _ h => List.mem_cons_of_mem _ (List.mem_append_right _ h)) (by decide +kernel))
set_option maxRecDepth 20000 in
theorem gL_object_X8_object : GoodIn wsL_object (wsV RL 68 RX8 yX8_object wsX8_object) := goodIn_app (goodIn_of _ (by decide +kernel)) ggL_object_X8_object
def rm_L_object_0_75 : Room := { frames := 11, cells := 2, slots := 12, locals := 262 }
set_option maxHeartbeats 4000000 in
set_option maxRecDepth 100000 in
theorem c_L_object_0_75 (l : Launch) (hfl : l.stackTraces = false) {G : zG} {ad : Nat → Nat} {σ σ' : zs} {a1 a2 : Int32} {r : Int32} (hf : f_L_object_0_75 σ a1 a2 = some (r, σ')) : xMi l yL_object wsL_object rm_L_object_0_75 G ad σ [.ref (ad 0), .int a1, .int a2, .ref (ad 75)] r σ' := by
  intro sz nb a g hs
  refine z_ofWH (cc := cL_object) (maxL := 5) (ret := (some .int)) (by decide) rfl ?_
  intro p e s m args below meth c s₁ B hml hv
  obtain ⟨rfl, hsz, hv⟩ := hv
  have hx := B.exec
  have hb := B.bytes
  have hr := B.returns
  have hts := atoms_spec (ws := wsL_object) B.pre
  have hown : s.vm.findClass RL = some m.cls := findClass_of_methodNamed B.named
  have hlocks := B.notSynchronized
  subst hsz
  have htab : c.exceptionTable.toList = [⟨0, 10, 13, 13⟩, ⟨0, 10, 17, 15⟩] := vx_table (x := yL_object) B (hts (.codeWith yL_object cL_object 5 (some .int) [(0, 10, 13, 13), (0, 10, 17, 15)]) List.mem_cons_self)
  have B := xB_start hs hv
  have hl := lv_entry ([.ref (ad 0), .int a1, .int a2, .ref (ad 75)]) (n := 5) (Nat.le_of_ble_eq_true rfl)
  rw [lg_entry_eq]
  generalize (lg_sl ([.ref (ad 0), .int a1, .int a2, .ref (ad 75)]) ++ List.replicate (5 - (lg_sl ([.ref (ad 0), .int a1, .int a2, .ref (ad 75)])).length) Slot.unset).toArray = ls at hl ⊢
  have hl : lv_has ls 5 [(0, .ref (ad 0)), (1, .int a1), (2, .int a2), (3, .ref (ad 75))] := hl
  generalize hAe : xA ad a s.heap.size = A at B ⊢
  unfold f_L_object_0_75 at hf
  refine lv_aload_n hx hb dL_object_0 rfl (lv_at hl 3 rfl) ?_
  refine lv_iconst (v := (0 : Int32)) hx hb dL_object_1 (by decide) ?_
  refine lv_aload_n hx hb dL_object_2 rfl (lv_at hl 0 rfl) ?_
  refine lv_iload_n hx hb dL_object_3 rfl (lv_at hl 1 rfl) ?_
  refine lv_iload_n hx hb dL_object_4 rfl (lv_at hl 2 rfl) ?_
  obtain ⟨u1, r2, σ3, hu1, hf⟩ := zc_some hf
  refine x_xi B (fun nb a g hs Bz => vx_runV (As := [.int a1, .int a2]) (rest := [.int (0 : Int32), .ref (ad 75)]) ⟨hx, hb, hml, hown, hts⟩ (c_X8_object l hfl hu1 _ nb a g hs) (cwV 2 hts gL_object_X8_object rfl rfl rfl (by decide +kernel) ⟨Nat.le_of_ble_eq_true rfl, Nat.le_of_ble_eq_true rfl⟩) (x_preV Bz (by decide) (fun _ => rfl) rfl) rfl rfl hl.1 rfl (lv_room (Nat.le_of_ble_eq_true rfl)) dL_object_5 ⟨Nat.le_of_ble_eq_true rfl, Nat.le_of_ble_eq_true rfl⟩) (fun H locs ce q9 h0 B k1 k2 k3 => ?_) (fun H locs h0 B => ?_)
  · have hf := zx_no hf h0
    by_cases he1 : u1 = 1
    · have hf := zif_t he1 hf
      subst he1
      refine vx_catch (E := "java/lang/IndexOutOfBoundsException") (name := "java/lang/IndexOutOfBoundsException") hown [] ⟨0, 10, 13, 13⟩ [⟨0, 10, 17, 15⟩] htab (fun z hz => by cases hz) (by decide) (by decide) (hts (.classLink RL 13 "java/lang/IndexOutOfBoundsException") (by decide +kernel)) (((xT B).castable (by decide +kernel)).use rfl) k1 k2 k3 ?_
      refine lv_astore (lv' := [(4, .ref q9), (0, .ref (ad 0)), (1, .int a1), (2, .int a2), (3, .ref (ad 75))]) hx hb dL_object_13 hl (by decide) rfl (fun ls hl => ?_)
      refine lv_iconst (v := (1 : Int32)) hx hb dL_object_15 (by decide) ?_
      refine W.widen (k := 2) (n := 12) (Nat.le_of_ble_eq_true rfl) (Nat.le_of_ble_eq_true rfl) ?_
      exact x_iret hx hb hr rfl hlocks B hf dL_object_16
    have hf := zif_f he1 hf
    by_cases he2 : u1 = 2
    · have hf := zif_t he2 hf
      subst he2
      refine vx_catch (E := "java/lang/IllegalArgumentException") (name := "java/lang/IllegalArgumentException") hown [⟨0, 10, 13, 13⟩] ⟨0, 10, 17, 15⟩ [] htab (fun z hz => by simp only [List.mem_cons, List.not_mem_nil, or_false] at hz; rcases hz with rfl <;> first | exact Or.inr ⟨by decide, _, hts (.classLink RL 13 "java/lang/IndexOutOfBoundsException") (by decide +kernel), (xT B).apart (by decide +kernel) (by decide +kernel) (by decide +kernel)⟩) (by decide) (by decide) (hts (.classLink RL 15 "java/lang/IllegalArgumentException") (by decide +kernel)) (((xT B).castable (by decide +kernel)).use rfl) k1 k2 k3 ?_
      refine lv_astore (lv' := [(4, .ref q9), (0, .ref (ad 0)), (1, .int a1), (2, .int a2), (3, .ref (ad 75))]) hx hb dL_object_17 hl (by decide) rfl (fun ls hl => ?_)
      refine lv_iconst (v := (2 : Int32)) hx hb dL_object_19 (by decide) ?_
      refine W.widen (k := 2) (n := 12) (Nat.le_of_ble_eq_true rfl) (Nat.le_of_ble_eq_true rfl) ?_
      exact x_iret hx hb hr rfl hlocks B hf dL_object_20
    have hf := zif_f he2 hf
    cases hf
  have hf := zx_ok hf h0
  refine lv_i2l (v := r2.toInt64) hx hb dL_object_8 rfl ?_
  obtain ⟨hg, hf⟩ := zg_some hf
  refine x_last hx hb B 75 rfl (by decide) (by decide) (fun _ => rfl) (zin_ok hg) dL_object_9 (fun H locs B => ?_)
  refine lv_goto (tgt := 21) hx hb dL_object_10 (by decide) ?_
  refine lv_iconst (v := (0 : Int32)) hx hb dL_object_21 (by decide) ?_
  refine W.widen (k := 2) (n := 12) (Nat.le_of_ble_eq_true rfl) (Nat.le_of_ble_eq_true rfl) ?_
  exact x_iret hx hb hr rfl hlocks B hf dL_object_22
theorem dL_pass_0 : decode cL_pass 0 = .ok (.aload_n 2, 1) := by decide +kernel
theorem dL_pass_1 : decode cL_pass 1 = .ok (.iconst 0, 1) := by decide +kernel
theorem dL_pass_2 : decode cL_pass 2 = .ok (.aload_n 0, 1) := by decide +kernel
theorem dL_pass_3 : decode cL_pass 3 = .ok (.iload_n 1, 1) := by decide +kernel
theorem dL_pass_4 : decode cL_pass 4 = .ok (.invokevirtual 71, 3) := by decide +kernel
theorem dL_pass_7 : decode cL_pass 7 = .ok (.i2l, 1) := by decide +kernel
theorem dL_pass_8 : decode cL_pass 8 = .ok (.lastore, 1) := by decide +kernel
theorem dL_pass_9 : decode cL_pass 9 = .ok (.goto 6, 3) := by decide +kernel
theorem dL_pass_12 : decode cL_pass 12 = .ok (.astore_n 3, 1) := by decide +kernel
theorem dL_pass_13 : decode cL_pass 13 = .ok (.iconst 1, 1) := by decide +kernel
theorem dL_pass_14 : decode cL_pass 14 = .ok (.ireturn, 1) := by decide +kernel
theorem dL_pass_15 : decode cL_pass 15 = .ok (.iconst 0, 1) := by decide +kernel
theorem dL_pass_16 : decode cL_pass 16 = .ok (.ireturn, 1) := by decide +kernel
set_option maxRecDepth 20000 in
theorem ggL_pass_X8_pass : GoodIn wsL_pass wsX8_pass := goodIn_ca (goodIn_ca (goodIn_r _ [6, 7, 8, 9, 10, 11, 5, 12, 13, 14, 15, 16, 17, 18, 19, 20, 21, 22, 23, 24, 25, 26, 27, 28, 29, 30, 31, 32, 33, 34, 35, 36, 37, 38, 39, 40, 41, 42, 43, 44, 45, 46, 47, 48, 49, 50, 51, 52, 53, 54, 55, 56, 57, 58, 59, 60, 61, 62, 63, 64, 65, 66, 67, 68, 69, 70, 71, 72, 73, 74, 75, 76, 77, 78, 79, 80, 81, 82, 83, 84, 85, 86, 87, 88, 89, 90, 91, 92, 93, 94, 95, 96, 97, 98, 99, 100, 101] (by decide +kernel) (by decide +kernel)) (goodIn_sub (fun _ h => List.mem_cons_of_mem _ (List.mem_append_right _ h)) (by decide +kernel))) (goodIn_sub (fun _ h => List.mem_cons_of_mem _ (List.mem_append_left _ (List.mem_append_right _ h))) (by decide +kernel))
set_option maxRecDepth 20000 in
theorem gL_pass_X8_pass : GoodIn wsL_pass (wsV RL 71 RX8 yX8_pass wsX8_pass) := goodIn_app (goodIn_of _ (by decide +kernel)) ggL_pass_X8_pass
def rm_L_pass_0_75 : Room := { frames := 10, cells := 1, slots := 6, locals := 242 }
set_option maxHeartbeats 4000000 in
set_option maxRecDepth 100000 in
theorem c_L_pass_0_75 (l : Launch) (hfl : l.stackTraces = false) {G : zG} {ad : Nat → Nat} {σ σ' : zs} {a1 : Int32} {r : Int32} (hf : f_L_pass_0_75 σ a1 = some (r, σ')) : xMi l yL_pass wsL_pass rm_L_pass_0_75 G ad σ [.ref (ad 0), .int a1, .ref (ad 75)] r σ' := by
  intro sz nb a g hs
  refine z_ofWH (cc := cL_pass) (maxL := 4) (ret := (some .int)) (by decide) rfl ?_
  intro p e s m args below meth c s₁ B hml hv
  obtain ⟨rfl, hsz, hv⟩ := hv
  have hx := B.exec
  have hb := B.bytes
  have hr := B.returns
  have hts := atoms_spec (ws := wsL_pass) B.pre
  have hown : s.vm.findClass RL = some m.cls := findClass_of_methodNamed B.named
  have hlocks := B.notSynchronized
  subst hsz
  have htab : c.exceptionTable.toList = [⟨0, 9, 12, 15⟩] := vx_table (x := yL_pass) B (hts (.codeWith yL_pass cL_pass 4 (some .int) [(0, 9, 12, 15)]) List.mem_cons_self)
  have B := xB_start hs hv
  have hl := lv_entry ([.ref (ad 0), .int a1, .ref (ad 75)]) (n := 4) (Nat.le_of_ble_eq_true rfl)
  rw [lg_entry_eq]
  generalize (lg_sl ([.ref (ad 0), .int a1, .ref (ad 75)]) ++ List.replicate (4 - (lg_sl ([.ref (ad 0), .int a1, .ref (ad 75)])).length) Slot.unset).toArray = ls at hl ⊢
  have hl : lv_has ls 4 [(0, .ref (ad 0)), (1, .int a1), (2, .ref (ad 75))] := hl
  generalize hAe : xA ad a s.heap.size = A at B ⊢
  unfold f_L_pass_0_75 at hf
  refine lv_aload_n hx hb dL_pass_0 rfl (lv_at hl 2 rfl) ?_
  refine lv_iconst (v := (0 : Int32)) hx hb dL_pass_1 (by decide) ?_
  refine lv_aload_n hx hb dL_pass_2 rfl (lv_at hl 0 rfl) ?_
  refine lv_iload_n hx hb dL_pass_3 rfl (lv_at hl 1 rfl) ?_
  obtain ⟨u1, r2, σ3, hu1, hf⟩ := zc_some hf
  refine x_xi B (fun nb a g hs Bz => vx_runV (As := [.int a1]) (rest := [.int (0 : Int32), .ref (ad 75)]) ⟨hx, hb, hml, hown, hts⟩ (c_X8_pass l hfl hu1 _ nb a g hs) (cwV 1 hts gL_pass_X8_pass rfl rfl rfl (by decide +kernel) ⟨Nat.le_of_ble_eq_true rfl, Nat.le_of_ble_eq_true rfl⟩) (x_preV Bz (by decide) (fun _ => rfl) rfl) rfl rfl hl.1 rfl (lv_room (Nat.le_of_ble_eq_true rfl)) dL_pass_4 ⟨Nat.le_of_ble_eq_true rfl, Nat.le_of_ble_eq_true rfl⟩) (fun H locs ce q9 h0 B k1 k2 k3 => ?_) (fun H locs h0 B => ?_)
  · have hf := zx_no hf h0
    by_cases he2 : u1 = 2
    · have hf := zif_t he2 hf
      subst he2
      refine vx_catch (E := "java/lang/IllegalArgumentException") (name := "java/lang/IllegalArgumentException") hown [] ⟨0, 9, 12, 15⟩ [] htab (fun z hz => by cases hz) (by decide) (by decide) (hts (.classLink RL 15 "java/lang/IllegalArgumentException") (by decide +kernel)) (((xT B).castable (by decide +kernel)).use rfl) k1 k2 k3 ?_
      refine lv_astore_n (lv' := [(3, .ref q9), (0, .ref (ad 0)), (1, .int a1), (2, .ref (ad 75))]) hx hb dL_pass_12 rfl hl (by decide) rfl (fun ls hl => ?_)
      refine lv_iconst (v := (1 : Int32)) hx hb dL_pass_13 (by decide) ?_
      refine W.widen (k := 1) (n := 6) (Nat.le_of_ble_eq_true rfl) (Nat.le_of_ble_eq_true rfl) ?_
      exact x_iret hx hb hr rfl hlocks B hf dL_pass_14
    have hf := zif_f he2 hf
    cases hf
  have hf := zx_ok hf h0
  refine lv_i2l (v := r2.toInt64) hx hb dL_pass_7 rfl ?_
  obtain ⟨hg, hf⟩ := zg_some hf
  refine x_last hx hb B 75 rfl (by decide) (by decide) (fun _ => rfl) (zin_ok hg) dL_pass_8 (fun H locs B => ?_)
  refine lv_goto (tgt := 15) hx hb dL_pass_9 (by decide) ?_
  refine lv_iconst (v := (0 : Int32)) hx hb dL_pass_15 (by decide) ?_
  refine W.widen (k := 1) (n := 6) (Nat.le_of_ble_eq_true rfl) (Nat.le_of_ble_eq_true rfl) ?_
  exact x_iret hx hb hr rfl hlocks B hf dL_pass_16
theorem dL_expired_0 : decode cL_expired 0 = .ok (.aload_n 2, 1) := by decide +kernel
theorem dL_expired_1 : decode cL_expired 1 = .ok (.iconst 0, 1) := by decide +kernel
theorem dL_expired_2 : decode cL_expired 2 = .ok (.aload_n 0, 1) := by decide +kernel
theorem dL_expired_3 : decode cL_expired 3 = .ok (.iload_n 1, 1) := by decide +kernel
theorem dL_expired_4 : decode cL_expired 4 = .ok (.invokevirtual 74, 3) := by decide +kernel
theorem dL_expired_7 : decode cL_expired 7 = .ok (.i2l, 1) := by decide +kernel
theorem dL_expired_8 : decode cL_expired 8 = .ok (.lastore, 1) := by decide +kernel
theorem dL_expired_9 : decode cL_expired 9 = .ok (.goto 6, 3) := by decide +kernel
theorem dL_expired_12 : decode cL_expired 12 = .ok (.astore_n 3, 1) := by decide +kernel
theorem dL_expired_13 : decode cL_expired 13 = .ok (.iconst 1, 1) := by decide +kernel
theorem dL_expired_14 : decode cL_expired 14 = .ok (.ireturn, 1) := by decide +kernel
theorem dL_expired_15 : decode cL_expired 15 = .ok (.iconst 0, 1) := by decide +kernel
theorem dL_expired_16 : decode cL_expired 16 = .ok (.ireturn, 1) := by decide +kernel
set_option maxRecDepth 20000 in
theorem ggL_expired_X8_expired : GoodIn wsL_expired wsX8_expired := goodIn_ca (goodIn_ca (goodIn_r _ [6, 7, 8, 9, 10, 11, 5, 12, 13, 14, 15, 16, 17, 18, 19, 20, 21, 22, 23, 24, 25, 26, 27, 28, 29, 30] (by decide +kernel) (by decide +kernel)) (goodIn_sub (fun _ h => List.mem_cons_of_mem _ (List.mem_append_left _ (List.mem_append_right _ h))) (by decide +kernel))) (goodIn_sub (fun _ h => List.mem_cons_of_mem _ (List.mem_append_right _ h)) (by decide +kernel))
set_option maxRecDepth 20000 in
theorem gL_expired_X8_expired : GoodIn wsL_expired (wsV RL 74 RX8 yX8_expired wsX8_expired) := goodIn_app (goodIn_of _ (by decide +kernel)) ggL_expired_X8_expired
def rm_L_expired_0_75 : Room := { frames := 10, cells := 1, slots := 6, locals := 241 }
set_option maxHeartbeats 4000000 in
set_option maxRecDepth 100000 in
theorem c_L_expired_0_75 (l : Launch) (hfl : l.stackTraces = false) {G : zG} {ad : Nat → Nat} {σ σ' : zs} {a1 : Int32} {r : Int32} (hf : f_L_expired_0_75 σ a1 = some (r, σ')) : xMi l yL_expired wsL_expired rm_L_expired_0_75 G ad σ [.ref (ad 0), .int a1, .ref (ad 75)] r σ' := by
  intro sz nb a g hs
  refine z_ofWH (cc := cL_expired) (maxL := 4) (ret := (some .int)) (by decide) rfl ?_
  intro p e s m args below meth c s₁ B hml hv
  obtain ⟨rfl, hsz, hv⟩ := hv
  have hx := B.exec
  have hb := B.bytes
  have hr := B.returns
  have hts := atoms_spec (ws := wsL_expired) B.pre
  have hown : s.vm.findClass RL = some m.cls := findClass_of_methodNamed B.named
  have hlocks := B.notSynchronized
  subst hsz
  have htab : c.exceptionTable.toList = [⟨0, 9, 12, 35⟩] := vx_table (x := yL_expired) B (hts (.codeWith yL_expired cL_expired 4 (some .int) [(0, 9, 12, 35)]) List.mem_cons_self)
  have B := xB_start hs hv
  have hl := lv_entry ([.ref (ad 0), .int a1, .ref (ad 75)]) (n := 4) (Nat.le_of_ble_eq_true rfl)
  rw [lg_entry_eq]
  generalize (lg_sl ([.ref (ad 0), .int a1, .ref (ad 75)]) ++ List.replicate (4 - (lg_sl ([.ref (ad 0), .int a1, .ref (ad 75)])).length) Slot.unset).toArray = ls at hl ⊢
  have hl : lv_has ls 4 [(0, .ref (ad 0)), (1, .int a1), (2, .ref (ad 75))] := hl
  generalize hAe : xA ad a s.heap.size = A at B ⊢
  unfold f_L_expired_0_75 at hf
  refine lv_aload_n hx hb dL_expired_0 rfl (lv_at hl 2 rfl) ?_
  refine lv_iconst (v := (0 : Int32)) hx hb dL_expired_1 (by decide) ?_
  refine lv_aload_n hx hb dL_expired_2 rfl (lv_at hl 0 rfl) ?_
  refine lv_iload_n hx hb dL_expired_3 rfl (lv_at hl 1 rfl) ?_
  obtain ⟨u1, r2, σ3, hu1, hf⟩ := zc_some hf
  refine x_xi B (fun nb a g hs Bz => vx_runV (As := [.int a1]) (rest := [.int (0 : Int32), .ref (ad 75)]) ⟨hx, hb, hml, hown, hts⟩ (c_X8_expired l hfl hu1 _ nb a g hs) (cwV 1 hts gL_expired_X8_expired rfl rfl rfl (by decide +kernel) ⟨Nat.le_of_ble_eq_true rfl, Nat.le_of_ble_eq_true rfl⟩) (x_preV Bz (by decide) (fun _ => rfl) rfl) rfl rfl hl.1 rfl (lv_room (Nat.le_of_ble_eq_true rfl)) dL_expired_4 ⟨Nat.le_of_ble_eq_true rfl, Nat.le_of_ble_eq_true rfl⟩) (fun H locs ce q9 h0 B k1 k2 k3 => ?_) (fun H locs h0 B => ?_)
  · have hf := zx_no hf h0
    by_cases he5 : u1 = 5
    · have hf := zif_t he5 hf
      subst he5
      refine vx_catch (E := "java/util/NoSuchElementException") (name := "java/util/NoSuchElementException") hown [] ⟨0, 9, 12, 35⟩ [] htab (fun z hz => by cases hz) (by decide) (by decide) (hts (.classLink RL 35 "java/util/NoSuchElementException") (by decide +kernel)) (((xT B).castable (by decide +kernel)).use rfl) k1 k2 k3 ?_
      refine lv_astore_n (lv' := [(3, .ref q9), (0, .ref (ad 0)), (1, .int a1), (2, .ref (ad 75))]) hx hb dL_expired_12 rfl hl (by decide) rfl (fun ls hl => ?_)
      refine lv_iconst (v := (1 : Int32)) hx hb dL_expired_13 (by decide) ?_
      refine W.widen (k := 1) (n := 6) (Nat.le_of_ble_eq_true rfl) (Nat.le_of_ble_eq_true rfl) ?_
      exact x_iret hx hb hr rfl hlocks B hf dL_expired_14
    have hf := zif_f he5 hf
    cases hf
  have hf := zx_ok hf h0
  refine lv_i2l (v := r2.toInt64) hx hb dL_expired_7 rfl ?_
  obtain ⟨hg, hf⟩ := zg_some hf
  refine x_last hx hb B 75 rfl (by decide) (by decide) (fun _ => rfl) (zin_ok hg) dL_expired_8 (fun H locs B => ?_)
  refine lv_goto (tgt := 15) hx hb dL_expired_9 (by decide) ?_
  refine lv_iconst (v := (0 : Int32)) hx hb dL_expired_15 (by decide) ?_
  refine W.widen (k := 1) (n := 6) (Nat.le_of_ble_eq_true rfl) (Nat.le_of_ble_eq_true rfl) ?_
  exact x_iret hx hb hr rfl hlocks B hf dL_expired_16
theorem dL_log_0 : decode cL_log 0 = .ok (.aload_n 2, 1) := by decide +kernel
theorem dL_log_1 : decode cL_log 1 = .ok (.iconst 0, 1) := by decide +kernel
theorem dL_log_2 : decode cL_log 2 = .ok (.aload_n 0, 1) := by decide +kernel
theorem dL_log_3 : decode cL_log 3 = .ok (.iload_n 1, 1) := by decide +kernel
theorem dL_log_4 : decode cL_log 4 = .ok (.invokevirtual 77, 3) := by decide +kernel
theorem dL_log_7 : decode cL_log 7 = .ok (.i2l, 1) := by decide +kernel
theorem dL_log_8 : decode cL_log 8 = .ok (.lastore, 1) := by decide +kernel
theorem dL_log_9 : decode cL_log 9 = .ok (.goto 6, 3) := by decide +kernel
theorem dL_log_12 : decode cL_log 12 = .ok (.astore_n 3, 1) := by decide +kernel
theorem dL_log_13 : decode cL_log 13 = .ok (.iconst 1, 1) := by decide +kernel
theorem dL_log_14 : decode cL_log 14 = .ok (.ireturn, 1) := by decide +kernel
theorem dL_log_15 : decode cL_log 15 = .ok (.iconst 0, 1) := by decide +kernel
theorem dL_log_16 : decode cL_log 16 = .ok (.ireturn, 1) := by decide +kernel
set_option maxRecDepth 20000 in
theorem ggL_log_X8_log : GoodIn wsL_log wsX8_log := goodIn_ca (goodIn_ca (goodIn_r _ [6, 7, 8, 9, 10, 11, 12, 5, 13, 14, 15, 16, 17, 18, 19, 20, 21, 22, 23, 24, 25, 26, 27, 28, 29, 30, 31, 32, 33, 34, 35] (by decide +kernel) (by decide +kernel)) (goodIn_sub (fun _ h => List.mem_cons_of_mem _ (List.mem_append_left _ (List.mem_append_right _ h))) (by decide +kernel))) (goodIn_sub (fun _ h => List.mem_cons_of_mem _ (List.mem_append_right _ h)) (by decide +kernel))
set_option maxRecDepth 20000 in
theorem gL_log_X8_log : GoodIn wsL_log (wsV RL 77 RX8 yX8_log wsX8_log) := goodIn_app (goodIn_of _ (by decide +kernel)) ggL_log_X8_log
def rm_L_log_0_75 : Room := { frames := 10, cells := 1, slots := 6, locals := 241 }
set_option maxHeartbeats 4000000 in
set_option maxRecDepth 100000 in
theorem c_L_log_0_75 (l : Launch) (hfl : l.stackTraces = false) {G : zG} {ad : Nat → Nat} {σ σ' : zs} {a1 : Int32} {r : Int32} (hf : f_L_log_0_75 σ a1 = some (r, σ')) : xMi l yL_log wsL_log rm_L_log_0_75 G ad σ [.ref (ad 0), .int a1, .ref (ad 75)] r σ' := by
  intro sz nb a g hs
  refine z_ofWH (cc := cL_log) (maxL := 4) (ret := (some .int)) (by decide) rfl ?_
  intro p e s m args below meth c s₁ B hml hv
  obtain ⟨rfl, hsz, hv⟩ := hv
  have hx := B.exec
  have hb := B.bytes
  have hr := B.returns
  have hts := atoms_spec (ws := wsL_log) B.pre
  have hown : s.vm.findClass RL = some m.cls := findClass_of_methodNamed B.named
  have hlocks := B.notSynchronized
  subst hsz
  have htab : c.exceptionTable.toList = [⟨0, 9, 12, 35⟩] := vx_table (x := yL_log) B (hts (.codeWith yL_log cL_log 4 (some .int) [(0, 9, 12, 35)]) List.mem_cons_self)
  have B := xB_start hs hv
  have hl := lv_entry ([.ref (ad 0), .int a1, .ref (ad 75)]) (n := 4) (Nat.le_of_ble_eq_true rfl)
  rw [lg_entry_eq]
  generalize (lg_sl ([.ref (ad 0), .int a1, .ref (ad 75)]) ++ List.replicate (4 - (lg_sl ([.ref (ad 0), .int a1, .ref (ad 75)])).length) Slot.unset).toArray = ls at hl ⊢
  have hl : lv_has ls 4 [(0, .ref (ad 0)), (1, .int a1), (2, .ref (ad 75))] := hl
  generalize hAe : xA ad a s.heap.size = A at B ⊢
  unfold f_L_log_0_75 at hf
  refine lv_aload_n hx hb dL_log_0 rfl (lv_at hl 2 rfl) ?_
  refine lv_iconst (v := (0 : Int32)) hx hb dL_log_1 (by decide) ?_
  refine lv_aload_n hx hb dL_log_2 rfl (lv_at hl 0 rfl) ?_
  refine lv_iload_n hx hb dL_log_3 rfl (lv_at hl 1 rfl) ?_
  obtain ⟨u1, r2, σ3, hu1, hf⟩ := zc_some hf
  refine x_xi B (fun nb a g hs Bz => vx_runV (As := [.int a1]) (rest := [.int (0 : Int32), .ref (ad 75)]) ⟨hx, hb, hml, hown, hts⟩ (c_X8_log l hfl hu1 _ nb a g hs) (cwV 1 hts gL_log_X8_log rfl rfl rfl (by decide +kernel) ⟨Nat.le_of_ble_eq_true rfl, Nat.le_of_ble_eq_true rfl⟩) (x_preV Bz (by decide) (fun _ => rfl) rfl) rfl rfl hl.1 rfl (lv_room (Nat.le_of_ble_eq_true rfl)) dL_log_4 ⟨Nat.le_of_ble_eq_true rfl, Nat.le_of_ble_eq_true rfl⟩) (fun H locs ce q9 h0 B k1 k2 k3 => ?_) (fun H locs h0 B => ?_)
  · have hf := zx_no hf h0
    by_cases he5 : u1 = 5
    · have hf := zif_t he5 hf
      subst he5
      refine vx_catch (E := "java/util/NoSuchElementException") (name := "java/util/NoSuchElementException") hown [] ⟨0, 9, 12, 35⟩ [] htab (fun z hz => by cases hz) (by decide) (by decide) (hts (.classLink RL 35 "java/util/NoSuchElementException") (by decide +kernel)) (((xT B).castable (by decide +kernel)).use rfl) k1 k2 k3 ?_
      refine lv_astore_n (lv' := [(3, .ref q9), (0, .ref (ad 0)), (1, .int a1), (2, .ref (ad 75))]) hx hb dL_log_12 rfl hl (by decide) rfl (fun ls hl => ?_)
      refine lv_iconst (v := (1 : Int32)) hx hb dL_log_13 (by decide) ?_
      refine W.widen (k := 1) (n := 6) (Nat.le_of_ble_eq_true rfl) (Nat.le_of_ble_eq_true rfl) ?_
      exact x_iret hx hb hr rfl hlocks B hf dL_log_14
    have hf := zif_f he5 hf
    cases hf
  have hf := zx_ok hf h0
  refine lv_i2l (v := r2.toInt64) hx hb dL_log_7 rfl ?_
  obtain ⟨hg, hf⟩ := zg_some hf
  refine x_last hx hb B 75 rfl (by decide) (by decide) (fun _ => rfl) (zin_ok hg) dL_log_8 (fun H locs B => ?_)
  refine lv_goto (tgt := 15) hx hb dL_log_9 (by decide) ?_
  refine lv_iconst (v := (0 : Int32)) hx hb dL_log_15 (by decide) ?_
  refine W.widen (k := 1) (n := 6) (Nat.le_of_ble_eq_true rfl) (Nat.le_of_ble_eq_true rfl) ?_
  exact x_iret hx hb hr rfl hlocks B hf dL_log_16
theorem dL_logged_0 : decode cL_logged 0 = .ok (.aload_n 3, 1) := by decide +kernel
theorem dL_logged_1 : decode cL_logged 1 = .ok (.iconst 0, 1) := by decide +kernel
theorem dL_logged_2 : decode cL_logged 2 = .ok (.aload_n 0, 1) := by decide +kernel
theorem dL_logged_3 : decode cL_logged 3 = .ok (.iload_n 1, 1) := by decide +kernel
theorem dL_logged_4 : decode cL_logged 4 = .ok (.iload_n 2, 1) := by decide +kernel
theorem dL_logged_5 : decode cL_logged 5 = .ok (.invokevirtual 80, 3) := by decide +kernel
theorem dL_logged_8 : decode cL_logged 8 = .ok (.i2l, 1) := by decide +kernel
theorem dL_logged_9 : decode cL_logged 9 = .ok (.lastore, 1) := by decide +kernel
theorem dL_logged_10 : decode cL_logged 10 = .ok (.goto 7, 3) := by decide +kernel
theorem dL_logged_13 : decode cL_logged 13 = .ok (.astore 4, 2) := by decide +kernel
theorem dL_logged_15 : decode cL_logged 15 = .ok (.iconst 1, 1) := by decide +kernel
theorem dL_logged_16 : decode cL_logged 16 = .ok (.ireturn, 1) := by decide +kernel
theorem dL_logged_17 : decode cL_logged 17 = .ok (.iconst 0, 1) := by decide +kernel
theorem dL_logged_18 : decode cL_logged 18 = .ok (.ireturn, 1) := by decide +kernel
set_option maxRecDepth 20000 in
theorem ggL_logged_X8_logged : GoodIn wsL_logged wsX8_logged := goodIn_ca (goodIn_ca (goodIn_r _ [6, 7, 8, 9, 10, 5, 11, 12, 13, 14, 15, 16, 17, 18, 19, 20, 21, 22, 23, 24, 25, 26, 27, 28, 29, 30, 31, 32, 33, 34, 35, 36, 37, 38, 39, 40, 41, 42, 43] (by decide +kernel) (by decide +kernel)) (goodIn_sub (fun _ h => List.mem_cons_of_mem _ (List.mem_append_right _ h)) (by decide +kernel))) (goodIn_sub (fun _ h => List.mem_cons_of_mem _ (List.mem_append_left _ (List.mem_append_right _ h))) (by decide +kernel))
set_option maxRecDepth 20000 in
theorem gL_logged_X8_logged : GoodIn wsL_logged (wsV RL 80 RX8 yX8_logged wsX8_logged) := goodIn_app (goodIn_of _ (by decide +kernel)) ggL_logged_X8_logged
def rm_L_logged_0_75 : Room := { frames := 11, cells := 1, slots := 6, locals := 262 }
set_option maxHeartbeats 4000000 in
set_option maxRecDepth 100000 in
theorem c_L_logged_0_75 (l : Launch) (hfl : l.stackTraces = false) {G : zG} {ad : Nat → Nat} {σ σ' : zs} {a1 a2 : Int32} {r : Int32} (hf : f_L_logged_0_75 σ a1 a2 = some (r, σ')) : xMi l yL_logged wsL_logged rm_L_logged_0_75 G ad σ [.ref (ad 0), .int a1, .int a2, .ref (ad 75)] r σ' := by
  intro sz nb a g hs
  refine z_ofWH (cc := cL_logged) (maxL := 5) (ret := (some .int)) (by decide) rfl ?_
  intro p e s m args below meth c s₁ B hml hv
  obtain ⟨rfl, hsz, hv⟩ := hv
  have hx := B.exec
  have hb := B.bytes
  have hr := B.returns
  have hts := atoms_spec (ws := wsL_logged) B.pre
  have hown : s.vm.findClass RL = some m.cls := findClass_of_methodNamed B.named
  have hlocks := B.notSynchronized
  subst hsz
  have htab : c.exceptionTable.toList = [⟨0, 10, 13, 13⟩] := vx_table (x := yL_logged) B (hts (.codeWith yL_logged cL_logged 5 (some .int) [(0, 10, 13, 13)]) List.mem_cons_self)
  have B := xB_start hs hv
  have hl := lv_entry ([.ref (ad 0), .int a1, .int a2, .ref (ad 75)]) (n := 5) (Nat.le_of_ble_eq_true rfl)
  rw [lg_entry_eq]
  generalize (lg_sl ([.ref (ad 0), .int a1, .int a2, .ref (ad 75)]) ++ List.replicate (5 - (lg_sl ([.ref (ad 0), .int a1, .int a2, .ref (ad 75)])).length) Slot.unset).toArray = ls at hl ⊢
  have hl : lv_has ls 5 [(0, .ref (ad 0)), (1, .int a1), (2, .int a2), (3, .ref (ad 75))] := hl
  generalize hAe : xA ad a s.heap.size = A at B ⊢
  unfold f_L_logged_0_75 at hf
  refine lv_aload_n hx hb dL_logged_0 rfl (lv_at hl 3 rfl) ?_
  refine lv_iconst (v := (0 : Int32)) hx hb dL_logged_1 (by decide) ?_
  refine lv_aload_n hx hb dL_logged_2 rfl (lv_at hl 0 rfl) ?_
  refine lv_iload_n hx hb dL_logged_3 rfl (lv_at hl 1 rfl) ?_
  refine lv_iload_n hx hb dL_logged_4 rfl (lv_at hl 2 rfl) ?_
  obtain ⟨u1, r2, σ3, hu1, hf⟩ := zc_some hf
  refine x_xi B (fun nb a g hs Bz => vx_runV (As := [.int a1, .int a2]) (rest := [.int (0 : Int32), .ref (ad 75)]) ⟨hx, hb, hml, hown, hts⟩ (c_X8_logged l hfl hu1 _ nb a g hs) (cwV 2 hts gL_logged_X8_logged rfl rfl rfl (by decide +kernel) ⟨Nat.le_of_ble_eq_true rfl, Nat.le_of_ble_eq_true rfl⟩) (x_preV Bz (by decide) (fun _ => rfl) rfl) rfl rfl hl.1 rfl (lv_room (Nat.le_of_ble_eq_true rfl)) dL_logged_5 ⟨Nat.le_of_ble_eq_true rfl, Nat.le_of_ble_eq_true rfl⟩) (fun H locs ce q9 h0 B k1 k2 k3 => ?_) (fun H locs h0 B => ?_)
  · have hf := zx_no hf h0
    by_cases he1 : u1 = 1
    · have hf := zif_t he1 hf
      subst he1
      refine vx_catch (E := "java/lang/IndexOutOfBoundsException") (name := "java/lang/IndexOutOfBoundsException") hown [] ⟨0, 10, 13, 13⟩ [] htab (fun z hz => by cases hz) (by decide) (by decide) (hts (.classLink RL 13 "java/lang/IndexOutOfBoundsException") (by decide +kernel)) (((xT B).castable (by decide +kernel)).use rfl) k1 k2 k3 ?_
      refine lv_astore (lv' := [(4, .ref q9), (0, .ref (ad 0)), (1, .int a1), (2, .int a2), (3, .ref (ad 75))]) hx hb dL_logged_13 hl (by decide) rfl (fun ls hl => ?_)
      refine lv_iconst (v := (1 : Int32)) hx hb dL_logged_15 (by decide) ?_
      refine W.widen (k := 1) (n := 6) (Nat.le_of_ble_eq_true rfl) (Nat.le_of_ble_eq_true rfl) ?_
      exact x_iret hx hb hr rfl hlocks B hf dL_logged_16
    have hf := zif_f he1 hf
    cases hf
  have hf := zx_ok hf h0
  refine lv_i2l (v := r2.toInt64) hx hb dL_logged_8 rfl ?_
  obtain ⟨hg, hf⟩ := zg_some hf
  refine x_last hx hb B 75 rfl (by decide) (by decide) (fun _ => rfl) (zin_ok hg) dL_logged_9 (fun H locs B => ?_)
  refine lv_goto (tgt := 17) hx hb dL_logged_10 (by decide) ?_
  refine lv_iconst (v := (0 : Int32)) hx hb dL_logged_17 (by decide) ?_
  refine W.widen (k := 1) (n := 6) (Nat.le_of_ble_eq_true rfl) (Nat.le_of_ble_eq_true rfl) ?_
  exact x_iret hx hb hr rfl hlocks B hf dL_logged_18
theorem dL_report_0 : decode cL_report 0 = .ok (.aload_n 3, 1) := by decide +kernel
theorem dL_report_1 : decode cL_report 1 = .ok (.iconst 0, 1) := by decide +kernel
theorem dL_report_2 : decode cL_report 2 = .ok (.aload_n 0, 1) := by decide +kernel
theorem dL_report_3 : decode cL_report 3 = .ok (.iload_n 1, 1) := by decide +kernel
theorem dL_report_4 : decode cL_report 4 = .ok (.iload_n 2, 1) := by decide +kernel
theorem dL_report_5 : decode cL_report 5 = .ok (.invokevirtual 84, 3) := by decide +kernel
theorem dL_report_8 : decode cL_report 8 = .ok (.i2l, 1) := by decide +kernel
theorem dL_report_9 : decode cL_report 9 = .ok (.lastore, 1) := by decide +kernel
theorem dL_report_10 : decode cL_report 10 = .ok (.goto 11, 3) := by decide +kernel
theorem dL_report_13 : decode cL_report 13 = .ok (.astore 4, 2) := by decide +kernel
theorem dL_report_15 : decode cL_report 15 = .ok (.iconst 1, 1) := by decide +kernel
theorem dL_report_16 : decode cL_report 16 = .ok (.ireturn, 1) := by decide +kernel
theorem dL_report_17 : decode cL_report 17 = .ok (.astore 4, 2) := by decide +kernel
theorem dL_report_19 : decode cL_report 19 = .ok (.iconst 2, 1) := by decide +kernel
theorem dL_report_20 : decode cL_report 20 = .ok (.ireturn, 1) := by decide +kernel
theorem dL_report_21 : decode cL_report 21 = .ok (.iconst 0, 1) := by decide +kernel
theorem dL_report_22 : decode cL_report 22 = .ok (.ireturn, 1) := by decide +kernel
set_option maxRecDepth 20000 in
theorem ggL_report_X8_report : GoodIn wsL_report wsX8_report := goodIn_ca (goodIn_ca (goodIn_ca (goodIn_r _ [7, 8, 9, 10, 11, 12, 13, 6, 14, 15, 16, 17, 18, 19, 20, 21, 22, 23, 24, 25, 26, 27, 28, 29, 30, 31, 32] (by decide +kernel) (by decide +kernel)) (goodIn_sub (fun _ h => List.mem_cons_of_mem _ (List.mem_append_left _ (List.mem_append_left _ (List.mem_append_right _ h)))) (by decide +kernel))) (goodIn_sub (fun _ h => List.mem_cons_of_mem _ (List.mem_append_left _ (List.mem_append_right _ h))) (by decide +kernel))) (goodIn_sub (fun _ h => List.mem_cons_of_mem _ (List.mem_append_right _ h)) (by decide +kernel))
set_option maxRecDepth 20000 in
theorem gL_report_X8_report : GoodIn wsL_report (wsV RL 84 RX8 yX8_report wsX8_report) := goodIn_app (goodIn_of _ (by decide +kernel)) ggL_report_X8_report
def rm_L_report_0_75 : Room := { frames := 10, cells := 2, slots := 12, locals := 242 }
set_option maxHeartbeats 4000000 in
set_option maxRecDepth 100000 in
theorem c_L_report_0_75 (l : Launch) (hfl : l.stackTraces = false) {G : zG} {ad : Nat → Nat} {σ σ' : zs} {a1 a2 : Int32} {r : Int32} (hf : f_L_report_0_75 σ a1 a2 = some (r, σ')) : xMi l yL_report wsL_report rm_L_report_0_75 G ad σ [.ref (ad 0), .int a1, .int a2, .ref (ad 75)] r σ' := by
  intro sz nb a g hs
  refine z_ofWH (cc := cL_report) (maxL := 5) (ret := (some .int)) (by decide) rfl ?_
  intro p e s m args below meth c s₁ B hml hv
  obtain ⟨rfl, hsz, hv⟩ := hv
  have hx := B.exec
  have hb := B.bytes
  have hr := B.returns
  have hts := atoms_spec (ws := wsL_report) B.pre
  have hown : s.vm.findClass RL = some m.cls := findClass_of_methodNamed B.named
  have hlocks := B.notSynchronized
  subst hsz
  have htab : c.exceptionTable.toList = [⟨0, 10, 13, 35⟩, ⟨0, 10, 17, 15⟩] := vx_table (x := yL_report) B (hts (.codeWith yL_report cL_report 5 (some .int) [(0, 10, 13, 35), (0, 10, 17, 15)]) List.mem_cons_self)
  have B := xB_start hs hv
  have hl := lv_entry ([.ref (ad 0), .int a1, .int a2, .ref (ad 75)]) (n := 5) (Nat.le_of_ble_eq_true rfl)
  rw [lg_entry_eq]
  generalize (lg_sl ([.ref (ad 0), .int a1, .int a2, .ref (ad 75)]) ++ List.replicate (5 - (lg_sl ([.ref (ad 0), .int a1, .int a2, .ref (ad 75)])).length) Slot.unset).toArray = ls at hl ⊢
  have hl : lv_has ls 5 [(0, .ref (ad 0)), (1, .int a1), (2, .int a2), (3, .ref (ad 75))] := hl
  generalize hAe : xA ad a s.heap.size = A at B ⊢
  unfold f_L_report_0_75 at hf
  refine lv_aload_n hx hb dL_report_0 rfl (lv_at hl 3 rfl) ?_
  refine lv_iconst (v := (0 : Int32)) hx hb dL_report_1 (by decide) ?_
  refine lv_aload_n hx hb dL_report_2 rfl (lv_at hl 0 rfl) ?_
  refine lv_iload_n hx hb dL_report_3 rfl (lv_at hl 1 rfl) ?_
  refine lv_iload_n hx hb dL_report_4 rfl (lv_at hl 2 rfl) ?_
  obtain ⟨u1, r2, σ3, hu1, hf⟩ := zc_some hf
  refine x_xi B (fun nb a g hs Bz => vx_runV (As := [.int a1, .int a2]) (rest := [.int (0 : Int32), .ref (ad 75)]) ⟨hx, hb, hml, hown, hts⟩ (c_X8_report l hfl hu1 _ nb a g hs) (cwV 2 hts gL_report_X8_report rfl rfl rfl (by decide +kernel) ⟨Nat.le_of_ble_eq_true rfl, Nat.le_of_ble_eq_true rfl⟩) (x_preV Bz (by decide) (fun _ => rfl) rfl) rfl rfl hl.1 rfl (lv_room (Nat.le_of_ble_eq_true rfl)) dL_report_5 ⟨Nat.le_of_ble_eq_true rfl, Nat.le_of_ble_eq_true rfl⟩) (fun H locs ce q9 h0 B k1 k2 k3 => ?_) (fun H locs h0 B => ?_)
  · have hf := zx_no hf h0
    by_cases he5 : u1 = 5
    · have hf := zif_t he5 hf
      subst he5
      refine vx_catch (E := "java/util/NoSuchElementException") (name := "java/util/NoSuchElementException") hown [] ⟨0, 10, 13, 35⟩ [⟨0, 10, 17, 15⟩] htab (fun z hz => by cases hz) (by decide) (by decide) (hts (.classLink RL 35 "java/util/NoSuchElementException") (by decide +kernel)) (((xT B).castable (by decide +kernel)).use rfl) k1 k2 k3 ?_
      refine lv_astore (lv' := [(4, .ref q9), (0, .ref (ad 0)), (1, .int a1), (2, .int a2), (3, .ref (ad 75))]) hx hb dL_report_13 hl (by decide) rfl (fun ls hl => ?_)
      refine lv_iconst (v := (1 : Int32)) hx hb dL_report_15 (by decide) ?_
      refine W.widen (k := 2) (n := 12) (Nat.le_of_ble_eq_true rfl) (Nat.le_of_ble_eq_true rfl) ?_
      exact x_iret hx hb hr rfl hlocks B hf dL_report_16
    have hf := zif_f he5 hf
    by_cases he2 : u1 = 2
    · have hf := zif_t he2 hf
      subst he2
      refine vx_catch (E := "java/lang/IllegalArgumentException") (name := "java/lang/IllegalArgumentException") hown [⟨0, 10, 13, 35⟩] ⟨0, 10, 17, 15⟩ [] htab (fun z hz => by simp only [List.mem_cons, List.not_mem_nil, or_false] at hz; rcases hz with rfl <;> first | exact Or.inr ⟨by decide, _, hts (.classLink RL 35 "java/util/NoSuchElementException") (by decide +kernel), (xT B).apart (by decide +kernel) (by decide +kernel) (by decide +kernel)⟩) (by decide) (by decide) (hts (.classLink RL 15 "java/lang/IllegalArgumentException") (by decide +kernel)) (((xT B).castable (by decide +kernel)).use rfl) k1 k2 k3 ?_
      refine lv_astore (lv' := [(4, .ref q9), (0, .ref (ad 0)), (1, .int a1), (2, .int a2), (3, .ref (ad 75))]) hx hb dL_report_17 hl (by decide) rfl (fun ls hl => ?_)
      refine lv_iconst (v := (2 : Int32)) hx hb dL_report_19 (by decide) ?_
      refine W.widen (k := 2) (n := 12) (Nat.le_of_ble_eq_true rfl) (Nat.le_of_ble_eq_true rfl) ?_
      exact x_iret hx hb hr rfl hlocks B hf dL_report_20
    have hf := zif_f he2 hf
    cases hf
  have hf := zx_ok hf h0
  refine lv_i2l (v := r2.toInt64) hx hb dL_report_8 rfl ?_
  obtain ⟨hg, hf⟩ := zg_some hf
  refine x_last hx hb B 75 rfl (by decide) (by decide) (fun _ => rfl) (zin_ok hg) dL_report_9 (fun H locs B => ?_)
  refine lv_goto (tgt := 21) hx hb dL_report_10 (by decide) ?_
  refine lv_iconst (v := (0 : Int32)) hx hb dL_report_21 (by decide) ?_
  refine W.widen (k := 2) (n := 12) (Nat.le_of_ble_eq_true rfl) (Nat.le_of_ble_eq_true rfl) ?_
  exact x_iret hx hb hr rfl hlocks B hf dL_report_22
theorem dL_makePair_0 : decode cL_makePair 0 = .ok (.aload_n 2, 1) := by decide +kernel
theorem dL_makePair_1 : decode cL_makePair 1 = .ok (.iconst 0, 1) := by decide +kernel
theorem dL_makePair_2 : decode cL_makePair 2 = .ok (.aload_n 0, 1) := by decide +kernel
theorem dL_makePair_3 : decode cL_makePair 3 = .ok (.iload_n 1, 1) := by decide +kernel
theorem dL_makePair_4 : decode cL_makePair 4 = .ok (.invokevirtual 87, 3) := by decide +kernel
theorem dL_makePair_7 : decode cL_makePair 7 = .ok (.i2l, 1) := by decide +kernel
theorem dL_makePair_8 : decode cL_makePair 8 = .ok (.lastore, 1) := by decide +kernel
theorem dL_makePair_9 : decode cL_makePair 9 = .ok (.goto 9, 3) := by decide +kernel
theorem dL_makePair_12 : decode cL_makePair 12 = .ok (.astore_n 3, 1) := by decide +kernel
theorem dL_makePair_13 : decode cL_makePair 13 = .ok (.iconst 1, 1) := by decide +kernel
theorem dL_makePair_14 : decode cL_makePair 14 = .ok (.ireturn, 1) := by decide +kernel
theorem dL_makePair_15 : decode cL_makePair 15 = .ok (.astore_n 3, 1) := by decide +kernel
theorem dL_makePair_16 : decode cL_makePair 16 = .ok (.iconst 2, 1) := by decide +kernel
theorem dL_makePair_17 : decode cL_makePair 17 = .ok (.ireturn, 1) := by decide +kernel
theorem dL_makePair_18 : decode cL_makePair 18 = .ok (.iconst 0, 1) := by decide +kernel
theorem dL_makePair_19 : decode cL_makePair 19 = .ok (.ireturn, 1) := by decide +kernel
set_option maxRecDepth 20000 in
theorem ggL_makePair_X8_makePair : GoodIn wsL_makePair wsX8_makePair := goodIn_ca (goodIn_ca (goodIn_ca (goodIn_r _ [7, 8, 9, 10, 11, 12, 6, 13, 14, 15, 16, 17, 18, 19, 20, 21, 22, 23, 24, 25, 26, 27, 28, 29, 30, 31, 32, 33, 34, 35, 36, 37, 38, 39, 40, 41, 42, 43, 44, 45, 46, 47, 48, 49, 50, 51, 52, 53, 54] (by decide +kernel) (by decide +kernel)) (goodIn_sub (fun _ h => List.mem_cons_of_mem _ (List.mem_append_left _ (List.mem_append_right _ h))) (by decide +kernel))) (goodIn_sub (fun _ h => List.mem_cons_of_mem _ (List.mem_append_right _ h)) (by decide +kernel))) (goodIn_sub (fun _ h => List.mem_cons_of_mem _ (List.mem_append_left _ (List.mem_append_left _ (List.mem_append_right _ h)))) (by decide +kernel))
set_option maxRecDepth 20000 in
theorem gL_makePair_X8_makePair : GoodIn wsL_makePair (wsV RL 87 RX8 yX8_makePair wsX8_makePair) := goodIn_app (goodIn_of _ (by decide +kernel)) ggL_makePair_X8_makePair
def rm_L_makePair_0_75 : Room := { frames := 11, cells := 2, slots := 12, locals := 261 }
set_option maxHeartbeats 4000000 in
set_option maxRecDepth 100000 in
theorem c_L_makePair_0_75 (l : Launch) (hfl : l.stackTraces = false) {G : zG} {ad : Nat → Nat} {σ σ' : zs} {a1 : Int32} {r : Int32} (hf : f_L_makePair_0_75 σ a1 = some (r, σ')) : xMi l yL_makePair wsL_makePair rm_L_makePair_0_75 G ad σ [.ref (ad 0), .int a1, .ref (ad 75)] r σ' := by
  intro sz nb a g hs
  refine z_ofWH (cc := cL_makePair) (maxL := 4) (ret := (some .int)) (by decide) rfl ?_
  intro p e s m args below meth c s₁ B hml hv
  obtain ⟨rfl, hsz, hv⟩ := hv
  have hx := B.exec
  have hb := B.bytes
  have hr := B.returns
  have hts := atoms_spec (ws := wsL_makePair) B.pre
  have hown : s.vm.findClass RL = some m.cls := findClass_of_methodNamed B.named
  have hlocks := B.notSynchronized
  subst hsz
  have htab : c.exceptionTable.toList = [⟨0, 9, 12, 13⟩, ⟨0, 9, 15, 17⟩] := vx_table (x := yL_makePair) B (hts (.codeWith yL_makePair cL_makePair 4 (some .int) [(0, 9, 12, 13), (0, 9, 15, 17)]) List.mem_cons_self)
  have B := xB_start hs hv
  have hl := lv_entry ([.ref (ad 0), .int a1, .ref (ad 75)]) (n := 4) (Nat.le_of_ble_eq_true rfl)
  rw [lg_entry_eq]
  generalize (lg_sl ([.ref (ad 0), .int a1, .ref (ad 75)]) ++ List.replicate (4 - (lg_sl ([.ref (ad 0), .int a1, .ref (ad 75)])).length) Slot.unset).toArray = ls at hl ⊢
  have hl : lv_has ls 4 [(0, .ref (ad 0)), (1, .int a1), (2, .ref (ad 75))] := hl
  generalize hAe : xA ad a s.heap.size = A at B ⊢
  unfold f_L_makePair_0_75 at hf
  refine lv_aload_n hx hb dL_makePair_0 rfl (lv_at hl 2 rfl) ?_
  refine lv_iconst (v := (0 : Int32)) hx hb dL_makePair_1 (by decide) ?_
  refine lv_aload_n hx hb dL_makePair_2 rfl (lv_at hl 0 rfl) ?_
  refine lv_iload_n hx hb dL_makePair_3 rfl (lv_at hl 1 rfl) ?_
  obtain ⟨u1, r2, σ3, hu1, hf⟩ := zc_some hf
  refine x_xi B (fun nb a g hs Bz => vx_runV (As := [.int a1]) (rest := [.int (0 : Int32), .ref (ad 75)]) ⟨hx, hb, hml, hown, hts⟩ (c_X8_makePair l hfl hu1 _ nb a g hs) (cwV 1 hts gL_makePair_X8_makePair rfl rfl rfl (by decide +kernel) ⟨Nat.le_of_ble_eq_true rfl, Nat.le_of_ble_eq_true rfl⟩) (x_preV Bz (by decide) (fun _ => rfl) rfl) rfl rfl hl.1 rfl (lv_room (Nat.le_of_ble_eq_true rfl)) dL_makePair_4 ⟨Nat.le_of_ble_eq_true rfl, Nat.le_of_ble_eq_true rfl⟩) (fun H locs ce q9 h0 B k1 k2 k3 => ?_) (fun H locs h0 B => ?_)
  · have hf := zx_no hf h0
    by_cases he1 : u1 = 1
    · have hf := zif_t he1 hf
      subst he1
      refine vx_catch (E := "java/lang/IndexOutOfBoundsException") (name := "java/lang/IndexOutOfBoundsException") hown [] ⟨0, 9, 12, 13⟩ [⟨0, 9, 15, 17⟩] htab (fun z hz => by cases hz) (by decide) (by decide) (hts (.classLink RL 13 "java/lang/IndexOutOfBoundsException") (by decide +kernel)) (((xT B).castable (by decide +kernel)).use rfl) k1 k2 k3 ?_
      refine lv_astore_n (lv' := [(3, .ref q9), (0, .ref (ad 0)), (1, .int a1), (2, .ref (ad 75))]) hx hb dL_makePair_12 rfl hl (by decide) rfl (fun ls hl => ?_)
      refine lv_iconst (v := (1 : Int32)) hx hb dL_makePair_13 (by decide) ?_
      refine W.widen (k := 2) (n := 12) (Nat.le_of_ble_eq_true rfl) (Nat.le_of_ble_eq_true rfl) ?_
      exact x_iret hx hb hr rfl hlocks B hf dL_makePair_14
    have hf := zif_f he1 hf
    by_cases he3 : u1 = 3
    · have hf := zif_t he3 hf
      subst he3
      refine vx_catch (E := "java/lang/IllegalStateException") (name := "java/lang/IllegalStateException") hown [⟨0, 9, 12, 13⟩] ⟨0, 9, 15, 17⟩ [] htab (fun z hz => by simp only [List.mem_cons, List.not_mem_nil, or_false] at hz; rcases hz with rfl <;> first | exact Or.inr ⟨by decide, _, hts (.classLink RL 13 "java/lang/IndexOutOfBoundsException") (by decide +kernel), (xT B).apart (by decide +kernel) (by decide +kernel) (by decide +kernel)⟩) (by decide) (by decide) (hts (.classLink RL 17 "java/lang/IllegalStateException") (by decide +kernel)) (((xT B).castable (by decide +kernel)).use rfl) k1 k2 k3 ?_
      refine lv_astore_n (lv' := [(3, .ref q9), (0, .ref (ad 0)), (1, .int a1), (2, .ref (ad 75))]) hx hb dL_makePair_15 rfl hl (by decide) rfl (fun ls hl => ?_)
      refine lv_iconst (v := (2 : Int32)) hx hb dL_makePair_16 (by decide) ?_
      refine W.widen (k := 2) (n := 12) (Nat.le_of_ble_eq_true rfl) (Nat.le_of_ble_eq_true rfl) ?_
      exact x_iret hx hb hr rfl hlocks B hf dL_makePair_17
    have hf := zif_f he3 hf
    cases hf
  have hf := zx_ok hf h0
  refine lv_i2l (v := r2.toInt64) hx hb dL_makePair_7 rfl ?_
  obtain ⟨hg, hf⟩ := zg_some hf
  refine x_last hx hb B 75 rfl (by decide) (by decide) (fun _ => rfl) (zin_ok hg) dL_makePair_8 (fun H locs B => ?_)
  refine lv_goto (tgt := 18) hx hb dL_makePair_9 (by decide) ?_
  refine lv_iconst (v := (0 : Int32)) hx hb dL_makePair_18 (by decide) ?_
  refine W.widen (k := 2) (n := 12) (Nat.le_of_ble_eq_true rfl) (Nat.le_of_ble_eq_true rfl) ?_
  exact x_iret hx hb hr rfl hlocks B hf dL_makePair_19
theorem dL_givePair_0 : decode cL_givePair 0 = .ok (.aload 5, 2) := by decide +kernel
theorem dL_givePair_2 : decode cL_givePair 2 = .ok (.iconst 0, 1) := by decide +kernel
theorem dL_givePair_3 : decode cL_givePair 3 = .ok (.aload_n 0, 1) := by decide +kernel
theorem dL_givePair_4 : decode cL_givePair 4 = .ok (.iload_n 1, 1) := by decide +kernel
theorem dL_givePair_5 : decode cL_givePair 5 = .ok (.iload_n 2, 1) := by decide +kernel
theorem dL_givePair_6 : decode cL_givePair 6 = .ok (.iload_n 3, 1) := by decide +kernel
theorem dL_givePair_7 : decode cL_givePair 7 = .ok (.iload 4, 2) := by decide +kernel
theorem dL_givePair_9 : decode cL_givePair 9 = .ok (.invokevirtual 90, 3) := by decide +kernel
theorem dL_givePair_12 : decode cL_givePair 12 = .ok (.i2l, 1) := by decide +kernel
theorem dL_givePair_13 : decode cL_givePair 13 = .ok (.lastore, 1) := by decide +kernel
theorem dL_givePair_14 : decode cL_givePair 14 = .ok (.goto 11, 3) := by decide +kernel
theorem dL_givePair_17 : decode cL_givePair 17 = .ok (.astore 6, 2) := by decide +kernel
theorem dL_givePair_19 : decode cL_givePair 19 = .ok (.iconst 1, 1) := by decide +kernel
theorem dL_givePair_20 : decode cL_givePair 20 = .ok (.ireturn, 1) := by decide +kernel
theorem dL_givePair_21 : decode cL_givePair 21 = .ok (.astore 6, 2) := by decide +kernel
theorem dL_givePair_23 : decode cL_givePair 23 = .ok (.iconst 2, 1) := by decide +kernel
theorem dL_givePair_24 : decode cL_givePair 24 = .ok (.ireturn, 1) := by decide +kernel
theorem dL_givePair_25 : decode cL_givePair 25 = .ok (.iconst 0, 1) := by decide +kernel
theorem dL_givePair_26 : decode cL_givePair 26 = .ok (.ireturn, 1) := by decide +kernel
set_option maxRecDepth 20000 in
theorem ggL_givePair_X8_givePair : GoodIn wsL_givePair wsX8_givePair := goodIn_ca (goodIn_ca (goodIn_ca (goodIn_r _ [7, 8, 9, 10, 11, 6, 12, 13, 14, 15, 16, 17, 18, 19, 20, 21, 22, 23, 24, 25, 26, 27, 28, 29, 30, 31, 32, 33, 34, 35, 36, 37, 38, 39, 40, 41, 42, 43, 44, 45, 46, 47, 48, 49, 50, 51, 52, 53, 54, 55, 56, 57, 58, 59, 60, 61, 62, 63, 64, 65, 66, 67, 68, 69, 70, 71, 72, 73, 74, 75, 76, 77, 78, 79, 80] (by decide +kernel) (by decide +kernel)) (goodIn_sub (fun _ h => List.mem_cons_of_mem _ (List.mem_append_left _ (List.mem_append_left _ (List.mem_append_right _ h)))) (by decide +kernel))) (goodIn_sub (fun _ h => List.mem_cons_of_mem _ (List.mem_append_left _ (List.mem_append_right _ h))) (by decide +kernel))) (goodIn_sub (fun _ h => List.mem_cons_of_mem _ (List.mem_append_right _ h)) (by decide +kernel))
set_option maxRecDepth 20000 in
theorem gL_givePair_X8_givePair : GoodIn wsL_givePair (wsV RL 90 RX8 yX8_givePair wsX8_givePair) := goodIn_app (goodIn_of _ (by decide +kernel)) ggL_givePair_X8_givePair
def rm_L_givePair_0_75 : Room := { frames := 11, cells := 4, slots := 24, locals := 266 }
set_option maxHeartbeats 4000000 in
set_option maxRecDepth 100000 in
theorem c_L_givePair_0_75 (l : Launch) (hfl : l.stackTraces = false) {G : zG} {ad : Nat → Nat} {σ σ' : zs} {a1 a2 a3 a4 : Int32} {r : Int32} (hf : f_L_givePair_0_75 σ a1 a2 a3 a4 = some (r, σ')) : xMi l yL_givePair wsL_givePair rm_L_givePair_0_75 G ad σ [.ref (ad 0), .int a1, .int a2, .int a3, .int a4, .ref (ad 75)] r σ' := by
  intro sz nb a g hs
  refine z_ofWH (cc := cL_givePair) (maxL := 7) (ret := (some .int)) (by decide) rfl ?_
  intro p e s m args below meth c s₁ B hml hv
  obtain ⟨rfl, hsz, hv⟩ := hv
  have hx := B.exec
  have hb := B.bytes
  have hr := B.returns
  have hts := atoms_spec (ws := wsL_givePair) B.pre
  have hown : s.vm.findClass RL = some m.cls := findClass_of_methodNamed B.named
  have hlocks := B.notSynchronized
  subst hsz
  have htab : c.exceptionTable.toList = [⟨0, 14, 17, 13⟩, ⟨0, 14, 21, 27⟩] := vx_table (x := yL_givePair) B (hts (.codeWith yL_givePair cL_givePair 7 (some .int) [(0, 14, 17, 13), (0, 14, 21, 27)]) List.mem_cons_self)
  have B := xB_start hs hv
  have hl := lv_entry ([.ref (ad 0), .int a1, .int a2, .int a3, .int a4, .ref (ad 75)]) (n := 7) (Nat.le_of_ble_eq_true rfl)
  rw [lg_entry_eq]
  generalize (lg_sl ([.ref (ad 0), .int a1, .int a2, .int a3, .int a4, .ref (ad 75)]) ++ List.replicate (7 - (lg_sl ([.ref (ad 0), .int a1, .int a2, .int a3, .int a4, .ref (ad 75)])).length) Slot.unset).toArray = ls at hl ⊢
  have hl : lv_has ls 7 [(0, .ref (ad 0)), (1, .int a1), (2, .int a2), (3, .int a3), (4, .int a4), (5, .ref (ad 75))] := hl
  generalize hAe : xA ad a s.heap.size = A at B ⊢
  unfold f_L_givePair_0_75 at hf
  refine lv_aload hx hb dL_givePair_0 (lv_at hl 5 rfl) ?_
  refine lv_iconst (v := (0 : Int32)) hx hb dL_givePair_2 (by decide) ?_
  refine lv_aload_n hx hb dL_givePair_3 rfl (lv_at hl 0 rfl) ?_
  refine lv_iload_n hx hb dL_givePair_4 rfl (lv_at hl 1 rfl) ?_
  refine lv_iload_n hx hb dL_givePair_5 rfl (lv_at hl 2 rfl) ?_
  refine lv_iload_n hx hb dL_givePair_6 rfl (lv_at hl 3 rfl) ?_
  refine lv_iload hx hb dL_givePair_7 (lv_at hl 4 rfl) ?_
  obtain ⟨u1, r2, σ3, hu1, hf⟩ := zc_some hf
  refine x_xi B (fun nb a g hs Bz => vx_runV (As := [.int a1, .int a2, .int a3, .int a4]) (rest := [.int (0 : Int32), .ref (ad 75)]) ⟨hx, hb, hml, hown, hts⟩ (c_X8_givePair l hfl hu1 _ nb a g hs) (cwV 4 hts gL_givePair_X8_givePair rfl rfl rfl (by decide +kernel) ⟨Nat.le_of_ble_eq_true rfl, Nat.le_of_ble_eq_true rfl⟩) (x_preV Bz (by decide) (fun _ => rfl) rfl) rfl rfl hl.1 rfl (lv_room (Nat.le_of_ble_eq_true rfl)) dL_givePair_9 ⟨Nat.le_of_ble_eq_true rfl, Nat.le_of_ble_eq_true rfl⟩) (fun H locs ce q9 h0 B k1 k2 k3 => ?_) (fun H locs h0 B => ?_)
  · have hf := zx_no hf h0
    by_cases he1 : u1 = 1
    · have hf := zif_t he1 hf
      subst he1
      refine vx_catch (E := "java/lang/IndexOutOfBoundsException") (name := "java/lang/IndexOutOfBoundsException") hown [] ⟨0, 14, 17, 13⟩ [⟨0, 14, 21, 27⟩] htab (fun z hz => by cases hz) (by decide) (by decide) (hts (.classLink RL 13 "java/lang/IndexOutOfBoundsException") (by decide +kernel)) (((xT B).castable (by decide +kernel)).use rfl) k1 k2 k3 ?_
      refine lv_astore (lv' := [(6, .ref q9), (0, .ref (ad 0)), (1, .int a1), (2, .int a2), (3, .int a3), (4, .int a4), (5, .ref (ad 75))]) hx hb dL_givePair_17 hl (by decide) rfl (fun ls hl => ?_)
      refine lv_iconst (v := (1 : Int32)) hx hb dL_givePair_19 (by decide) ?_
      refine W.widen (k := 4) (n := 24) (Nat.le_of_ble_eq_true rfl) (Nat.le_of_ble_eq_true rfl) ?_
      exact x_iret hx hb hr rfl hlocks B hf dL_givePair_20
    have hf := zif_f he1 hf
    by_cases he4 : u1 = 4
    · have hf := zif_t he4 hf
      subst he4
      refine vx_catch (E := "java/lang/UnsupportedOperationException") (name := "java/lang/UnsupportedOperationException") hown [⟨0, 14, 17, 13⟩] ⟨0, 14, 21, 27⟩ [] htab (fun z hz => by simp only [List.mem_cons, List.not_mem_nil, or_false] at hz; rcases hz with rfl <;> first | exact Or.inr ⟨by decide, _, hts (.classLink RL 13 "java/lang/IndexOutOfBoundsException") (by decide +kernel), (xT B).apart (by decide +kernel) (by decide +kernel) (by decide +kernel)⟩) (by decide) (by decide) (hts (.classLink RL 27 "java/lang/UnsupportedOperationException") (by decide +kernel)) (((xT B).castable (by decide +kernel)).use rfl) k1 k2 k3 ?_
      refine lv_astore (lv' := [(6, .ref q9), (0, .ref (ad 0)), (1, .int a1), (2, .int a2), (3, .int a3), (4, .int a4), (5, .ref (ad 75))]) hx hb dL_givePair_21 hl (by decide) rfl (fun ls hl => ?_)
      refine lv_iconst (v := (2 : Int32)) hx hb dL_givePair_23 (by decide) ?_
      refine W.widen (k := 4) (n := 24) (Nat.le_of_ble_eq_true rfl) (Nat.le_of_ble_eq_true rfl) ?_
      exact x_iret hx hb hr rfl hlocks B hf dL_givePair_24
    have hf := zif_f he4 hf
    cases hf
  have hf := zx_ok hf h0
  refine lv_i2l (v := r2.toInt64) hx hb dL_givePair_12 rfl ?_
  obtain ⟨hg, hf⟩ := zg_some hf
  refine x_last hx hb B 75 rfl (by decide) (by decide) (fun _ => rfl) (zin_ok hg) dL_givePair_13 (fun H locs B => ?_)
  refine lv_goto (tgt := 25) hx hb dL_givePair_14 (by decide) ?_
  refine lv_iconst (v := (0 : Int32)) hx hb dL_givePair_25 (by decide) ?_
  refine W.widen (k := 4) (n := 24) (Nat.le_of_ble_eq_true rfl) (Nat.le_of_ble_eq_true rfl) ?_
  exact x_iret hx hb hr rfl hlocks B hf dL_givePair_26
theorem dL_seal_0 : decode cL_seal 0 = .ok (.aload 4, 2) := by decide +kernel
theorem dL_seal_2 : decode cL_seal 2 = .ok (.iconst 0, 1) := by decide +kernel
theorem dL_seal_3 : decode cL_seal 3 = .ok (.aload_n 0, 1) := by decide +kernel
theorem dL_seal_4 : decode cL_seal 4 = .ok (.iload_n 1, 1) := by decide +kernel
theorem dL_seal_5 : decode cL_seal 5 = .ok (.iload_n 2, 1) := by decide +kernel
theorem dL_seal_6 : decode cL_seal 6 = .ok (.iload_n 3, 1) := by decide +kernel
theorem dL_seal_7 : decode cL_seal 7 = .ok (.invokevirtual 94, 3) := by decide +kernel
theorem dL_seal_10 : decode cL_seal 10 = .ok (.i2l, 1) := by decide +kernel
theorem dL_seal_11 : decode cL_seal 11 = .ok (.lastore, 1) := by decide +kernel
theorem dL_seal_12 : decode cL_seal 12 = .ok (.goto 15, 3) := by decide +kernel
theorem dL_seal_15 : decode cL_seal 15 = .ok (.astore 5, 2) := by decide +kernel
theorem dL_seal_17 : decode cL_seal 17 = .ok (.iconst 1, 1) := by decide +kernel
theorem dL_seal_18 : decode cL_seal 18 = .ok (.ireturn, 1) := by decide +kernel
theorem dL_seal_19 : decode cL_seal 19 = .ok (.astore 5, 2) := by decide +kernel
theorem dL_seal_21 : decode cL_seal 21 = .ok (.iconst 2, 1) := by decide +kernel
theorem dL_seal_22 : decode cL_seal 22 = .ok (.ireturn, 1) := by decide +kernel
theorem dL_seal_23 : decode cL_seal 23 = .ok (.astore 5, 2) := by decide +kernel
theorem dL_seal_25 : decode cL_seal 25 = .ok (.iconst 3, 1) := by decide +kernel
theorem dL_seal_26 : decode cL_seal 26 = .ok (.ireturn, 1) := by decide +kernel
theorem dL_seal_27 : decode cL_seal 27 = .ok (.iconst 0, 1) := by decide +kernel
theorem dL_seal_28 : decode cL_seal 28 = .ok (.ireturn, 1) := by decide +kernel
set_option maxRecDepth 20000 in
theorem ggL_seal_X8_seal : GoodIn wsL_seal wsX8_seal := goodIn_ca (goodIn_ca (goodIn_ca (goodIn_ca (goodIn_r _ [8, 9, 10, 11, 12, 13, 7, 14, 15, 16, 17, 18, 19, 20, 21, 22, 23, 24, 25, 26, 27, 28, 29, 30, 31, 32, 33, 34, 35, 36, 37, 38, 39, 40, 41, 42, 43, 44, 45, 46, 47, 48, 49, 50, 51, 52, 53, 54, 55, 56, 57, 58, 59, 60, 61, 62, 63, 64, 65, 66, 67, 68, 69, 70, 71, 72, 73, 74, 75, 76, 77, 78, 79, 80, 81, 82, 83, 84, 85, 86, 87, 88, 89, 90, 91, 92, 93, 94, 95, 96, 97, 98, 99, 100, 101, 102, 103, 104, 105, 106, 107, 108, 109, 110, 111, 112, 113, 114, 115, 116, 117, 118] (by decide +kernel) (by decide +kernel)) (goodIn_sub (fun _ h => List.mem_cons_of_mem _ (List.mem_append_left _ (List.mem_append_left _ (List.mem_append_right _ h)))) (by decide +kernel))) (goodIn_sub (fun _ h => List.mem_cons_of_mem _ (List.mem_append_left _ (List.mem_append_left _ (List.mem_append_left _ (List.mem_append_right _ h))))) (by decide +kernel))) (goodIn_sub (fun _ h => List.mem_cons_of_mem _ (List.mem_append_left _ (List.mem_append_right _ h))) (by decide +kernel))) (goodIn_sub (fun _ h => List.mem_cons_of_mem _ (List.mem_append_right _ h)) (by decide +kernel))
set_option maxRecDepth 20000 in
theorem gL_seal_X8_seal : GoodIn wsL_seal (wsV RL 94 RX8 yX8_seal wsX8_seal) := goodIn_app (goodIn_of _ (by decide +kernel)) ggL_seal_X8_seal
def rm_L_seal_0_75 : Room := { frames := 11, cells := 5, slots := 30, locals := 264 }
set_option maxHeartbeats 4000000 in
set_option maxRecDepth 100000 in
theorem c_L_seal_0_75 (l : Launch) (hfl : l.stackTraces = false) {G : zG} {ad : Nat → Nat} {σ σ' : zs} {a1 a2 a3 : Int32} {r : Int32} (hf : f_L_seal_0_75 σ a1 a2 a3 = some (r, σ')) : xMi l yL_seal wsL_seal rm_L_seal_0_75 G ad σ [.ref (ad 0), .int a1, .int a2, .int a3, .ref (ad 75)] r σ' := by
  intro sz nb a g hs
  refine z_ofWH (cc := cL_seal) (maxL := 6) (ret := (some .int)) (by decide) rfl ?_
  intro p e s m args below meth c s₁ B hml hv
  obtain ⟨rfl, hsz, hv⟩ := hv
  have hx := B.exec
  have hb := B.bytes
  have hr := B.returns
  have hts := atoms_spec (ws := wsL_seal) B.pre
  have hown : s.vm.findClass RL = some m.cls := findClass_of_methodNamed B.named
  have hlocks := B.notSynchronized
  subst hsz
  have htab : c.exceptionTable.toList = [⟨0, 12, 15, 13⟩, ⟨0, 12, 19, 27⟩, ⟨0, 12, 23, 17⟩] := vx_table (x := yL_seal) B (hts (.codeWith yL_seal cL_seal 6 (some .int) [(0, 12, 15, 13), (0, 12, 19, 27), (0, 12, 23, 17)]) List.mem_cons_self)
  have B := xB_start hs hv
  have hl := lv_entry ([.ref (ad 0), .int a1, .int a2, .int a3, .ref (ad 75)]) (n := 6) (Nat.le_of_ble_eq_true rfl)
  rw [lg_entry_eq]
  generalize (lg_sl ([.ref (ad 0), .int a1, .int a2, .int a3, .ref (ad 75)]) ++ List.replicate (6 - (lg_sl ([.ref (ad 0), .int a1, .int a2, .int a3, .ref (ad 75)])).length) Slot.unset).toArray = ls at hl ⊢
  have hl : lv_has ls 6 [(0, .ref (ad 0)), (1, .int a1), (2, .int a2), (3, .int a3), (4, .ref (ad 75))] := hl
  generalize hAe : xA ad a s.heap.size = A at B ⊢
  unfold f_L_seal_0_75 at hf
  refine lv_aload hx hb dL_seal_0 (lv_at hl 4 rfl) ?_
  refine lv_iconst (v := (0 : Int32)) hx hb dL_seal_2 (by decide) ?_
  refine lv_aload_n hx hb dL_seal_3 rfl (lv_at hl 0 rfl) ?_
  refine lv_iload_n hx hb dL_seal_4 rfl (lv_at hl 1 rfl) ?_
  refine lv_iload_n hx hb dL_seal_5 rfl (lv_at hl 2 rfl) ?_
  refine lv_iload_n hx hb dL_seal_6 rfl (lv_at hl 3 rfl) ?_
  obtain ⟨u1, r2, σ3, hu1, hf⟩ := zc_some hf
  refine x_xi B (fun nb a g hs Bz => vx_runV (As := [.int a1, .int a2, .int a3]) (rest := [.int (0 : Int32), .ref (ad 75)]) ⟨hx, hb, hml, hown, hts⟩ (c_X8_seal l hfl hu1 _ nb a g hs) (cwV 3 hts gL_seal_X8_seal rfl rfl rfl (by decide +kernel) ⟨Nat.le_of_ble_eq_true rfl, Nat.le_of_ble_eq_true rfl⟩) (x_preV Bz (by decide) (fun _ => rfl) rfl) rfl rfl hl.1 rfl (lv_room (Nat.le_of_ble_eq_true rfl)) dL_seal_7 ⟨Nat.le_of_ble_eq_true rfl, Nat.le_of_ble_eq_true rfl⟩) (fun H locs ce q9 h0 B k1 k2 k3 => ?_) (fun H locs h0 B => ?_)
  · have hf := zx_no hf h0
    by_cases he1 : u1 = 1
    · have hf := zif_t he1 hf
      subst he1
      refine vx_catch (E := "java/lang/IndexOutOfBoundsException") (name := "java/lang/IndexOutOfBoundsException") hown [] ⟨0, 12, 15, 13⟩ [⟨0, 12, 19, 27⟩, ⟨0, 12, 23, 17⟩] htab (fun z hz => by cases hz) (by decide) (by decide) (hts (.classLink RL 13 "java/lang/IndexOutOfBoundsException") (by decide +kernel)) (((xT B).castable (by decide +kernel)).use rfl) k1 k2 k3 ?_
      refine lv_astore (lv' := [(5, .ref q9), (0, .ref (ad 0)), (1, .int a1), (2, .int a2), (3, .int a3), (4, .ref (ad 75))]) hx hb dL_seal_15 hl (by decide) rfl (fun ls hl => ?_)
      refine lv_iconst (v := (1 : Int32)) hx hb dL_seal_17 (by decide) ?_
      refine W.widen (k := 5) (n := 30) (Nat.le_of_ble_eq_true rfl) (Nat.le_of_ble_eq_true rfl) ?_
      exact x_iret hx hb hr rfl hlocks B hf dL_seal_18
    have hf := zif_f he1 hf
    by_cases he4 : u1 = 4
    · have hf := zif_t he4 hf
      subst he4
      refine vx_catch (E := "java/lang/UnsupportedOperationException") (name := "java/lang/UnsupportedOperationException") hown [⟨0, 12, 15, 13⟩] ⟨0, 12, 19, 27⟩ [⟨0, 12, 23, 17⟩] htab (fun z hz => by simp only [List.mem_cons, List.not_mem_nil, or_false] at hz; rcases hz with rfl <;> first | exact Or.inr ⟨by decide, _, hts (.classLink RL 13 "java/lang/IndexOutOfBoundsException") (by decide +kernel), (xT B).apart (by decide +kernel) (by decide +kernel) (by decide +kernel)⟩) (by decide) (by decide) (hts (.classLink RL 27 "java/lang/UnsupportedOperationException") (by decide +kernel)) (((xT B).castable (by decide +kernel)).use rfl) k1 k2 k3 ?_
      refine lv_astore (lv' := [(5, .ref q9), (0, .ref (ad 0)), (1, .int a1), (2, .int a2), (3, .int a3), (4, .ref (ad 75))]) hx hb dL_seal_19 hl (by decide) rfl (fun ls hl => ?_)
      refine lv_iconst (v := (2 : Int32)) hx hb dL_seal_21 (by decide) ?_
      refine W.widen (k := 5) (n := 30) (Nat.le_of_ble_eq_true rfl) (Nat.le_of_ble_eq_true rfl) ?_
      exact x_iret hx hb hr rfl hlocks B hf dL_seal_22
    have hf := zif_f he4 hf
    by_cases he3 : u1 = 3
    · have hf := zif_t he3 hf
      subst he3
      refine vx_catch (E := "java/lang/IllegalStateException") (name := "java/lang/IllegalStateException") hown [⟨0, 12, 15, 13⟩, ⟨0, 12, 19, 27⟩] ⟨0, 12, 23, 17⟩ [] htab (fun z hz => by simp only [List.mem_cons, List.not_mem_nil, or_false] at hz; rcases hz with rfl | rfl <;> first | exact Or.inr ⟨by decide, _, hts (.classLink RL 13 "java/lang/IndexOutOfBoundsException") (by decide +kernel), (xT B).apart (by decide +kernel) (by decide +kernel) (by decide +kernel)⟩ | exact Or.inr ⟨by decide, _, hts (.classLink RL 27 "java/lang/UnsupportedOperationException") (by decide +kernel), (xT B).apart (by decide +kernel) (by decide +kernel) (by decide +kernel)⟩) (by decide) (by decide) (hts (.classLink RL 17 "java/lang/IllegalStateException") (by decide +kernel)) (((xT B).castable (by decide +kernel)).use rfl) k1 k2 k3 ?_
      refine lv_astore (lv' := [(5, .ref q9), (0, .ref (ad 0)), (1, .int a1), (2, .int a2), (3, .int a3), (4, .ref (ad 75))]) hx hb dL_seal_23 hl (by decide) rfl (fun ls hl => ?_)
      refine lv_iconst (v := (3 : Int32)) hx hb dL_seal_25 (by decide) ?_
      refine W.widen (k := 5) (n := 30) (Nat.le_of_ble_eq_true rfl) (Nat.le_of_ble_eq_true rfl) ?_
      exact x_iret hx hb hr rfl hlocks B hf dL_seal_26
    have hf := zif_f he3 hf
    cases hf
  have hf := zx_ok hf h0
  refine lv_i2l (v := r2.toInt64) hx hb dL_seal_10 rfl ?_
  obtain ⟨hg, hf⟩ := zg_some hf
  refine x_last hx hb B 75 rfl (by decide) (by decide) (fun _ => rfl) (zin_ok hg) dL_seal_11 (fun H locs B => ?_)
  refine lv_goto (tgt := 27) hx hb dL_seal_12 (by decide) ?_
  refine lv_iconst (v := (0 : Int32)) hx hb dL_seal_27 (by decide) ?_
  refine W.widen (k := 5) (n := 30) (Nat.le_of_ble_eq_true rfl) (Nat.le_of_ble_eq_true rfl) ?_
  exact x_iret hx hb hr rfl hlocks B hf dL_seal_28
theorem dL_giveBox_0 : decode cL_giveBox 0 = .ok (.aload 4, 2) := by decide +kernel
theorem dL_giveBox_2 : decode cL_giveBox 2 = .ok (.iconst 0, 1) := by decide +kernel
theorem dL_giveBox_3 : decode cL_giveBox 3 = .ok (.aload_n 0, 1) := by decide +kernel
theorem dL_giveBox_4 : decode cL_giveBox 4 = .ok (.iload_n 1, 1) := by decide +kernel
theorem dL_giveBox_5 : decode cL_giveBox 5 = .ok (.iload_n 2, 1) := by decide +kernel
theorem dL_giveBox_6 : decode cL_giveBox 6 = .ok (.iload_n 3, 1) := by decide +kernel
theorem dL_giveBox_7 : decode cL_giveBox 7 = .ok (.invokevirtual 97, 3) := by decide +kernel
theorem dL_giveBox_10 : decode cL_giveBox 10 = .ok (.i2l, 1) := by decide +kernel
theorem dL_giveBox_11 : decode cL_giveBox 11 = .ok (.lastore, 1) := by decide +kernel
theorem dL_giveBox_12 : decode cL_giveBox 12 = .ok (.goto 11, 3) := by decide +kernel
theorem dL_giveBox_15 : decode cL_giveBox 15 = .ok (.astore 5, 2) := by decide +kernel
theorem dL_giveBox_17 : decode cL_giveBox 17 = .ok (.iconst 1, 1) := by decide +kernel
theorem dL_giveBox_18 : decode cL_giveBox 18 = .ok (.ireturn, 1) := by decide +kernel
theorem dL_giveBox_19 : decode cL_giveBox 19 = .ok (.astore 5, 2) := by decide +kernel
theorem dL_giveBox_21 : decode cL_giveBox 21 = .ok (.iconst 2, 1) := by decide +kernel
theorem dL_giveBox_22 : decode cL_giveBox 22 = .ok (.ireturn, 1) := by decide +kernel
theorem dL_giveBox_23 : decode cL_giveBox 23 = .ok (.iconst 0, 1) := by decide +kernel
theorem dL_giveBox_24 : decode cL_giveBox 24 = .ok (.ireturn, 1) := by decide +kernel
set_option maxRecDepth 20000 in
theorem ggL_giveBox_X8_giveBox : GoodIn wsL_giveBox wsX8_giveBox := goodIn_ca (goodIn_ca (goodIn_ca (goodIn_r _ [7, 8, 9, 10, 11, 12, 6, 13, 14, 15, 16, 17, 18, 19, 20, 21, 22, 23, 24, 25, 26, 27, 28, 29, 30, 31, 32, 33, 34, 35, 36, 37, 38, 39, 40, 41, 42, 43, 44, 45, 46, 47, 48, 49, 50, 51, 52, 53, 54, 55, 56, 57, 58, 59, 60, 61, 62, 63, 64, 65, 66, 67, 68, 69, 70, 71, 72, 73, 74] (by decide +kernel) (by decide +kernel)) (goodIn_sub (fun _ h => List.mem_cons_of_mem _ (List.mem_append_left _ (List.mem_append_left _ (List.mem_append_right _ h)))) (by decide +kernel))) (goodIn_sub (fun _ h => List.mem_cons_of_mem _ (List.mem_append_left _ (List.mem_append_right _ h))) (by decide +kernel))) (goodIn_sub (fun _ h => List.mem_cons_of_mem _ (List.mem_append_right _ h)) (by decide +kernel))
set_option maxRecDepth 20000 in
theorem gL_giveBox_X8_giveBox : GoodIn wsL_giveBox (wsV RL 97 RX8 yX8_giveBox wsX8_giveBox) := goodIn_app (goodIn_of _ (by decide +kernel)) ggL_giveBox_X8_giveBox
def rm_L_giveBox_0_75 : Room := { frames := 11, cells := 4, slots := 24, locals := 264 }
set_option maxHeartbeats 4000000 in
set_option maxRecDepth 100000 in
theorem c_L_giveBox_0_75 (l : Launch) (hfl : l.stackTraces = false) {G : zG} {ad : Nat → Nat} {σ σ' : zs} {a1 a2 a3 : Int32} {r : Int32} (hf : f_L_giveBox_0_75 σ a1 a2 a3 = some (r, σ')) : xMi l yL_giveBox wsL_giveBox rm_L_giveBox_0_75 G ad σ [.ref (ad 0), .int a1, .int a2, .int a3, .ref (ad 75)] r σ' := by
  intro sz nb a g hs
  refine z_ofWH (cc := cL_giveBox) (maxL := 6) (ret := (some .int)) (by decide) rfl ?_
  intro p e s m args below meth c s₁ B hml hv
  obtain ⟨rfl, hsz, hv⟩ := hv
  have hx := B.exec
  have hb := B.bytes
  have hr := B.returns
  have hts := atoms_spec (ws := wsL_giveBox) B.pre
  have hown : s.vm.findClass RL = some m.cls := findClass_of_methodNamed B.named
  have hlocks := B.notSynchronized
  subst hsz
  have htab : c.exceptionTable.toList = [⟨0, 12, 15, 13⟩, ⟨0, 12, 19, 27⟩] := vx_table (x := yL_giveBox) B (hts (.codeWith yL_giveBox cL_giveBox 6 (some .int) [(0, 12, 15, 13), (0, 12, 19, 27)]) List.mem_cons_self)
  have B := xB_start hs hv
  have hl := lv_entry ([.ref (ad 0), .int a1, .int a2, .int a3, .ref (ad 75)]) (n := 6) (Nat.le_of_ble_eq_true rfl)
  rw [lg_entry_eq]
  generalize (lg_sl ([.ref (ad 0), .int a1, .int a2, .int a3, .ref (ad 75)]) ++ List.replicate (6 - (lg_sl ([.ref (ad 0), .int a1, .int a2, .int a3, .ref (ad 75)])).length) Slot.unset).toArray = ls at hl ⊢
  have hl : lv_has ls 6 [(0, .ref (ad 0)), (1, .int a1), (2, .int a2), (3, .int a3), (4, .ref (ad 75))] := hl
  generalize hAe : xA ad a s.heap.size = A at B ⊢
  unfold f_L_giveBox_0_75 at hf
  refine lv_aload hx hb dL_giveBox_0 (lv_at hl 4 rfl) ?_
  refine lv_iconst (v := (0 : Int32)) hx hb dL_giveBox_2 (by decide) ?_
  refine lv_aload_n hx hb dL_giveBox_3 rfl (lv_at hl 0 rfl) ?_
  refine lv_iload_n hx hb dL_giveBox_4 rfl (lv_at hl 1 rfl) ?_
  refine lv_iload_n hx hb dL_giveBox_5 rfl (lv_at hl 2 rfl) ?_
  refine lv_iload_n hx hb dL_giveBox_6 rfl (lv_at hl 3 rfl) ?_
  obtain ⟨u1, r2, σ3, hu1, hf⟩ := zc_some hf
  refine x_xi B (fun nb a g hs Bz => vx_runV (As := [.int a1, .int a2, .int a3]) (rest := [.int (0 : Int32), .ref (ad 75)]) ⟨hx, hb, hml, hown, hts⟩ (c_X8_giveBox l hfl hu1 _ nb a g hs) (cwV 3 hts gL_giveBox_X8_giveBox rfl rfl rfl (by decide +kernel) ⟨Nat.le_of_ble_eq_true rfl, Nat.le_of_ble_eq_true rfl⟩) (x_preV Bz (by decide) (fun _ => rfl) rfl) rfl rfl hl.1 rfl (lv_room (Nat.le_of_ble_eq_true rfl)) dL_giveBox_7 ⟨Nat.le_of_ble_eq_true rfl, Nat.le_of_ble_eq_true rfl⟩) (fun H locs ce q9 h0 B k1 k2 k3 => ?_) (fun H locs h0 B => ?_)
  · have hf := zx_no hf h0
    by_cases he1 : u1 = 1
    · have hf := zif_t he1 hf
      subst he1
      refine vx_catch (E := "java/lang/IndexOutOfBoundsException") (name := "java/lang/IndexOutOfBoundsException") hown [] ⟨0, 12, 15, 13⟩ [⟨0, 12, 19, 27⟩] htab (fun z hz => by cases hz) (by decide) (by decide) (hts (.classLink RL 13 "java/lang/IndexOutOfBoundsException") (by decide +kernel)) (((xT B).castable (by decide +kernel)).use rfl) k1 k2 k3 ?_
      refine lv_astore (lv' := [(5, .ref q9), (0, .ref (ad 0)), (1, .int a1), (2, .int a2), (3, .int a3), (4, .ref (ad 75))]) hx hb dL_giveBox_15 hl (by decide) rfl (fun ls hl => ?_)
      refine lv_iconst (v := (1 : Int32)) hx hb dL_giveBox_17 (by decide) ?_
      refine W.widen (k := 4) (n := 24) (Nat.le_of_ble_eq_true rfl) (Nat.le_of_ble_eq_true rfl) ?_
      exact x_iret hx hb hr rfl hlocks B hf dL_giveBox_18
    have hf := zif_f he1 hf
    by_cases he4 : u1 = 4
    · have hf := zif_t he4 hf
      subst he4
      refine vx_catch (E := "java/lang/UnsupportedOperationException") (name := "java/lang/UnsupportedOperationException") hown [⟨0, 12, 15, 13⟩] ⟨0, 12, 19, 27⟩ [] htab (fun z hz => by simp only [List.mem_cons, List.not_mem_nil, or_false] at hz; rcases hz with rfl <;> first | exact Or.inr ⟨by decide, _, hts (.classLink RL 13 "java/lang/IndexOutOfBoundsException") (by decide +kernel), (xT B).apart (by decide +kernel) (by decide +kernel) (by decide +kernel)⟩) (by decide) (by decide) (hts (.classLink RL 27 "java/lang/UnsupportedOperationException") (by decide +kernel)) (((xT B).castable (by decide +kernel)).use rfl) k1 k2 k3 ?_
      refine lv_astore (lv' := [(5, .ref q9), (0, .ref (ad 0)), (1, .int a1), (2, .int a2), (3, .int a3), (4, .ref (ad 75))]) hx hb dL_giveBox_19 hl (by decide) rfl (fun ls hl => ?_)
      refine lv_iconst (v := (2 : Int32)) hx hb dL_giveBox_21 (by decide) ?_
      refine W.widen (k := 4) (n := 24) (Nat.le_of_ble_eq_true rfl) (Nat.le_of_ble_eq_true rfl) ?_
      exact x_iret hx hb hr rfl hlocks B hf dL_giveBox_22
    have hf := zif_f he4 hf
    cases hf
  have hf := zx_ok hf h0
  refine lv_i2l (v := r2.toInt64) hx hb dL_giveBox_10 rfl ?_
  obtain ⟨hg, hf⟩ := zg_some hf
  refine x_last hx hb B 75 rfl (by decide) (by decide) (fun _ => rfl) (zin_ok hg) dL_giveBox_11 (fun H locs B => ?_)
  refine lv_goto (tgt := 23) hx hb dL_giveBox_12 (by decide) ?_
  refine lv_iconst (v := (0 : Int32)) hx hb dL_giveBox_23 (by decide) ?_
  refine W.widen (k := 4) (n := 24) (Nat.le_of_ble_eq_true rfl) (Nat.le_of_ble_eq_true rfl) ?_
  exact x_iret hx hb hr rfl hlocks B hf dL_giveBox_24
theorem dL_unseal_0 : decode cL_unseal 0 = .ok (.aload_n 3, 1) := by decide +kernel
theorem dL_unseal_1 : decode cL_unseal 1 = .ok (.iconst 0, 1) := by decide +kernel
theorem dL_unseal_2 : decode cL_unseal 2 = .ok (.aload_n 0, 1) := by decide +kernel
theorem dL_unseal_3 : decode cL_unseal 3 = .ok (.iload_n 1, 1) := by decide +kernel
theorem dL_unseal_4 : decode cL_unseal 4 = .ok (.iload_n 2, 1) := by decide +kernel
theorem dL_unseal_5 : decode cL_unseal 5 = .ok (.invokevirtual 100, 3) := by decide +kernel
theorem dL_unseal_8 : decode cL_unseal 8 = .ok (.i2l, 1) := by decide +kernel
theorem dL_unseal_9 : decode cL_unseal 9 = .ok (.lastore, 1) := by decide +kernel
theorem dL_unseal_10 : decode cL_unseal 10 = .ok (.goto 11, 3) := by decide +kernel
theorem dL_unseal_13 : decode cL_unseal 13 = .ok (.astore 4, 2) := by decide +kernel
theorem dL_unseal_15 : decode cL_unseal 15 = .ok (.iconst 1, 1) := by decide +kernel
theorem dL_unseal_16 : decode cL_unseal 16 = .ok (.ireturn, 1) := by decide +kernel
theorem dL_unseal_17 : decode cL_unseal 17 = .ok (.astore 4, 2) := by decide +kernel
theorem dL_unseal_19 : decode cL_unseal 19 = .ok (.iconst 2, 1) := by decide +kernel
theorem dL_unseal_20 : decode cL_unseal 20 = .ok (.ireturn, 1) := by decide +kernel
theorem dL_unseal_21 : decode cL_unseal 21 = .ok (.iconst 0, 1) := by decide +kernel
theorem dL_unseal_22 : decode cL_unseal 22 = .ok (.ireturn, 1) := by decide +kernel
set_option maxRecDepth 20000 in
theorem ggL_unseal_X8_unseal : GoodIn wsL_unseal wsX8_unseal := goodIn_ca (goodIn_ca (goodIn_ca (goodIn_r _ [7, 8, 9, 10, 11, 12, 13, 14, 15, 6, 16, 17, 18, 19, 20, 21, 22, 23, 24, 25, 26, 27, 28, 29, 30, 31, 32, 33, 34, 35, 36, 37, 38, 39, 40, 41, 42, 43, 44, 45, 46, 47, 48, 49, 50, 51, 52, 53, 54, 55, 56, 57, 58, 59, 60, 61, 62, 63, 64, 65, 66, 67, 68, 69, 70, 71, 72, 73, 74, 75, 76, 77, 78, 79, 80, 81, 82, 83, 84, 85, 86, 87, 88, 89, 90, 91, 92, 93, 94, 95, 96, 97, 98, 99, 100, 101] (by decide +kernel) (by decide +kernel)) (goodIn_sub (fun _ h => List.mem_cons_of_mem _ (List.mem_append_left _ (List.mem_append_left _ (List.mem_append_right _ h)))) (by decide +kernel))) (goodIn_sub (fun _ h => List.mem_cons_of_mem _ (List.mem_append_left _ (List.mem_append_right _ h))) (by decide +kernel))) (goodIn_sub (fun _ h => List.mem_cons_of_mem _ (List.mem_append_right _ h)) (by decide +kernel))
set_option maxRecDepth 20000 in
theorem gL_unseal_X8_unseal : GoodIn wsL_unseal (wsV RL 100 RX8 yX8_unseal wsX8_unseal) := goodIn_app (goodIn_of _ (by decide +kernel)) ggL_unseal_X8_unseal
def rm_L_unseal_0_75 : Room := { frames := 11, cells := 3, slots := 18, locals := 264 }
set_option maxHeartbeats 4000000 in
set_option maxRecDepth 100000 in
theorem c_L_unseal_0_75 (l : Launch) (hfl : l.stackTraces = false) {G : zG} {ad : Nat → Nat} {σ σ' : zs} {a1 a2 : Int32} {r : Int32} (hf : f_L_unseal_0_75 σ a1 a2 = some (r, σ')) : xMi l yL_unseal wsL_unseal rm_L_unseal_0_75 G ad σ [.ref (ad 0), .int a1, .int a2, .ref (ad 75)] r σ' := by
  intro sz nb a g hs
  refine z_ofWH (cc := cL_unseal) (maxL := 5) (ret := (some .int)) (by decide) rfl ?_
  intro p e s m args below meth c s₁ B hml hv
  obtain ⟨rfl, hsz, hv⟩ := hv
  have hx := B.exec
  have hb := B.bytes
  have hr := B.returns
  have hts := atoms_spec (ws := wsL_unseal) B.pre
  have hown : s.vm.findClass RL = some m.cls := findClass_of_methodNamed B.named
  have hlocks := B.notSynchronized
  subst hsz
  have htab : c.exceptionTable.toList = [⟨0, 10, 13, 13⟩, ⟨0, 10, 17, 27⟩] := vx_table (x := yL_unseal) B (hts (.codeWith yL_unseal cL_unseal 5 (some .int) [(0, 10, 13, 13), (0, 10, 17, 27)]) List.mem_cons_self)
  have B := xB_start hs hv
  have hl := lv_entry ([.ref (ad 0), .int a1, .int a2, .ref (ad 75)]) (n := 5) (Nat.le_of_ble_eq_true rfl)
  rw [lg_entry_eq]
  generalize (lg_sl ([.ref (ad 0), .int a1, .int a2, .ref (ad 75)]) ++ List.replicate (5 - (lg_sl ([.ref (ad 0), .int a1, .int a2, .ref (ad 75)])).length) Slot.unset).toArray = ls at hl ⊢
  have hl : lv_has ls 5 [(0, .ref (ad 0)), (1, .int a1), (2, .int a2), (3, .ref (ad 75))] := hl
  generalize hAe : xA ad a s.heap.size = A at B ⊢
  unfold f_L_unseal_0_75 at hf
  refine lv_aload_n hx hb dL_unseal_0 rfl (lv_at hl 3 rfl) ?_
  refine lv_iconst (v := (0 : Int32)) hx hb dL_unseal_1 (by decide) ?_
  refine lv_aload_n hx hb dL_unseal_2 rfl (lv_at hl 0 rfl) ?_
  refine lv_iload_n hx hb dL_unseal_3 rfl (lv_at hl 1 rfl) ?_
  refine lv_iload_n hx hb dL_unseal_4 rfl (lv_at hl 2 rfl) ?_
  obtain ⟨u1, r2, σ3, hu1, hf⟩ := zc_some hf
  refine x_xi B (fun nb a g hs Bz => vx_runV (As := [.int a1, .int a2]) (rest := [.int (0 : Int32), .ref (ad 75)]) ⟨hx, hb, hml, hown, hts⟩ (c_X8_unseal l hfl hu1 _ nb a g hs) (cwV 2 hts gL_unseal_X8_unseal rfl rfl rfl (by decide +kernel) ⟨Nat.le_of_ble_eq_true rfl, Nat.le_of_ble_eq_true rfl⟩) (x_preV Bz (by decide) (fun _ => rfl) rfl) rfl rfl hl.1 rfl (lv_room (Nat.le_of_ble_eq_true rfl)) dL_unseal_5 ⟨Nat.le_of_ble_eq_true rfl, Nat.le_of_ble_eq_true rfl⟩) (fun H locs ce q9 h0 B k1 k2 k3 => ?_) (fun H locs h0 B => ?_)
  · have hf := zx_no hf h0
    by_cases he1 : u1 = 1
    · have hf := zif_t he1 hf
      subst he1
      refine vx_catch (E := "java/lang/IndexOutOfBoundsException") (name := "java/lang/IndexOutOfBoundsException") hown [] ⟨0, 10, 13, 13⟩ [⟨0, 10, 17, 27⟩] htab (fun z hz => by cases hz) (by decide) (by decide) (hts (.classLink RL 13 "java/lang/IndexOutOfBoundsException") (by decide +kernel)) (((xT B).castable (by decide +kernel)).use rfl) k1 k2 k3 ?_
      refine lv_astore (lv' := [(4, .ref q9), (0, .ref (ad 0)), (1, .int a1), (2, .int a2), (3, .ref (ad 75))]) hx hb dL_unseal_13 hl (by decide) rfl (fun ls hl => ?_)
      refine lv_iconst (v := (1 : Int32)) hx hb dL_unseal_15 (by decide) ?_
      refine W.widen (k := 3) (n := 18) (Nat.le_of_ble_eq_true rfl) (Nat.le_of_ble_eq_true rfl) ?_
      exact x_iret hx hb hr rfl hlocks B hf dL_unseal_16
    have hf := zif_f he1 hf
    by_cases he4 : u1 = 4
    · have hf := zif_t he4 hf
      subst he4
      refine vx_catch (E := "java/lang/UnsupportedOperationException") (name := "java/lang/UnsupportedOperationException") hown [⟨0, 10, 13, 13⟩] ⟨0, 10, 17, 27⟩ [] htab (fun z hz => by simp only [List.mem_cons, List.not_mem_nil, or_false] at hz; rcases hz with rfl <;> first | exact Or.inr ⟨by decide, _, hts (.classLink RL 13 "java/lang/IndexOutOfBoundsException") (by decide +kernel), (xT B).apart (by decide +kernel) (by decide +kernel) (by decide +kernel)⟩) (by decide) (by decide) (hts (.classLink RL 27 "java/lang/UnsupportedOperationException") (by decide +kernel)) (((xT B).castable (by decide +kernel)).use rfl) k1 k2 k3 ?_
      refine lv_astore (lv' := [(4, .ref q9), (0, .ref (ad 0)), (1, .int a1), (2, .int a2), (3, .ref (ad 75))]) hx hb dL_unseal_17 hl (by decide) rfl (fun ls hl => ?_)
      refine lv_iconst (v := (2 : Int32)) hx hb dL_unseal_19 (by decide) ?_
      refine W.widen (k := 3) (n := 18) (Nat.le_of_ble_eq_true rfl) (Nat.le_of_ble_eq_true rfl) ?_
      exact x_iret hx hb hr rfl hlocks B hf dL_unseal_20
    have hf := zif_f he4 hf
    cases hf
  have hf := zx_ok hf h0
  refine lv_i2l (v := r2.toInt64) hx hb dL_unseal_8 rfl ?_
  obtain ⟨hg, hf⟩ := zg_some hf
  refine x_last hx hb B 75 rfl (by decide) (by decide) (fun _ => rfl) (zin_ok hg) dL_unseal_9 (fun H locs B => ?_)
  refine lv_goto (tgt := 21) hx hb dL_unseal_10 (by decide) ?_
  refine lv_iconst (v := (0 : Int32)) hx hb dL_unseal_21 (by decide) ?_
  refine W.widen (k := 3) (n := 18) (Nat.le_of_ble_eq_true rfl) (Nat.le_of_ble_eq_true rfl) ?_
  exact x_iret hx hb hr rfl hlocks B hf dL_unseal_22
theorem dL_pairOf_0 : decode cL_pairOf 0 = .ok (.aload_n 2, 1) := by decide +kernel
theorem dL_pairOf_1 : decode cL_pairOf 1 = .ok (.iconst 0, 1) := by decide +kernel
theorem dL_pairOf_2 : decode cL_pairOf 2 = .ok (.aload_n 0, 1) := by decide +kernel
theorem dL_pairOf_3 : decode cL_pairOf 3 = .ok (.iload_n 1, 1) := by decide +kernel
theorem dL_pairOf_4 : decode cL_pairOf 4 = .ok (.invokevirtual 103, 3) := by decide +kernel
theorem dL_pairOf_7 : decode cL_pairOf 7 = .ok (.i2l, 1) := by decide +kernel
theorem dL_pairOf_8 : decode cL_pairOf 8 = .ok (.lastore, 1) := by decide +kernel
theorem dL_pairOf_9 : decode cL_pairOf 9 = .ok (.goto 6, 3) := by decide +kernel
theorem dL_pairOf_12 : decode cL_pairOf 12 = .ok (.astore_n 3, 1) := by decide +kernel
theorem dL_pairOf_13 : decode cL_pairOf 13 = .ok (.iconst 1, 1) := by decide +kernel
theorem dL_pairOf_14 : decode cL_pairOf 14 = .ok (.ireturn, 1) := by decide +kernel
theorem dL_pairOf_15 : decode cL_pairOf 15 = .ok (.iconst 0, 1) := by decide +kernel
theorem dL_pairOf_16 : decode cL_pairOf 16 = .ok (.ireturn, 1) := by decide +kernel
set_option maxRecDepth 20000 in
theorem ggL_pairOf_X8_pairOf : GoodIn wsL_pairOf wsX8_pairOf := goodIn_ca (goodIn_ca (goodIn_r _ [6, 7, 8, 9, 10, 11, 12, 5, 13, 14, 15, 16, 17, 18, 19, 20, 21, 22, 23, 24, 25, 26, 27, 28, 29, 30, 31, 32, 33, 34, 35, 36, 37, 38, 39, 40, 41, 42] (by decide +kernel) (by decide +kernel)) (goodIn_sub (fun _ h => List.mem_cons_of_mem _ (List.mem_append_left _ (List.mem_append_right _ h))) (by decide +kernel))) (goodIn_sub (fun _ h => List.mem_cons_of_mem _ (List.mem_append_right _ h)) (by decide +kernel))
set_option maxRecDepth 20000 in
theorem gL_pairOf_X8_pairOf : GoodIn wsL_pairOf (wsV RL 103 RX8 yX8_pairOf wsX8_pairOf) := goodIn_app (goodIn_of _ (by decide +kernel)) ggL_pairOf_X8_pairOf
def rm_L_pairOf_0_75 : Room := { frames := 11, cells := 1, slots := 6, locals := 262 }
set_option maxHeartbeats 4000000 in
set_option maxRecDepth 100000 in
theorem c_L_pairOf_0_75 (l : Launch) (hfl : l.stackTraces = false) {G : zG} {ad : Nat → Nat} {σ σ' : zs} {a1 : Int32} {r : Int32} (hf : f_L_pairOf_0_75 σ a1 = some (r, σ')) : xMi l yL_pairOf wsL_pairOf rm_L_pairOf_0_75 G ad σ [.ref (ad 0), .int a1, .ref (ad 75)] r σ' := by
  intro sz nb a g hs
  refine z_ofWH (cc := cL_pairOf) (maxL := 4) (ret := (some .int)) (by decide) rfl ?_
  intro p e s m args below meth c s₁ B hml hv
  obtain ⟨rfl, hsz, hv⟩ := hv
  have hx := B.exec
  have hb := B.bytes
  have hr := B.returns
  have hts := atoms_spec (ws := wsL_pairOf) B.pre
  have hown : s.vm.findClass RL = some m.cls := findClass_of_methodNamed B.named
  have hlocks := B.notSynchronized
  subst hsz
  have htab : c.exceptionTable.toList = [⟨0, 9, 12, 13⟩] := vx_table (x := yL_pairOf) B (hts (.codeWith yL_pairOf cL_pairOf 4 (some .int) [(0, 9, 12, 13)]) List.mem_cons_self)
  have B := xB_start hs hv
  have hl := lv_entry ([.ref (ad 0), .int a1, .ref (ad 75)]) (n := 4) (Nat.le_of_ble_eq_true rfl)
  rw [lg_entry_eq]
  generalize (lg_sl ([.ref (ad 0), .int a1, .ref (ad 75)]) ++ List.replicate (4 - (lg_sl ([.ref (ad 0), .int a1, .ref (ad 75)])).length) Slot.unset).toArray = ls at hl ⊢
  have hl : lv_has ls 4 [(0, .ref (ad 0)), (1, .int a1), (2, .ref (ad 75))] := hl
  generalize hAe : xA ad a s.heap.size = A at B ⊢
  unfold f_L_pairOf_0_75 at hf
  refine lv_aload_n hx hb dL_pairOf_0 rfl (lv_at hl 2 rfl) ?_
  refine lv_iconst (v := (0 : Int32)) hx hb dL_pairOf_1 (by decide) ?_
  refine lv_aload_n hx hb dL_pairOf_2 rfl (lv_at hl 0 rfl) ?_
  refine lv_iload_n hx hb dL_pairOf_3 rfl (lv_at hl 1 rfl) ?_
  obtain ⟨u1, r2, σ3, hu1, hf⟩ := zc_some hf
  refine x_xi B (fun nb a g hs Bz => vx_runV (As := [.int a1]) (rest := [.int (0 : Int32), .ref (ad 75)]) ⟨hx, hb, hml, hown, hts⟩ (c_X8_pairOf l hfl hu1 _ nb a g hs) (cwV 1 hts gL_pairOf_X8_pairOf rfl rfl rfl (by decide +kernel) ⟨Nat.le_of_ble_eq_true rfl, Nat.le_of_ble_eq_true rfl⟩) (x_preV Bz (by decide) (fun _ => rfl) rfl) rfl rfl hl.1 rfl (lv_room (Nat.le_of_ble_eq_true rfl)) dL_pairOf_4 ⟨Nat.le_of_ble_eq_true rfl, Nat.le_of_ble_eq_true rfl⟩) (fun H locs ce q9 h0 B k1 k2 k3 => ?_) (fun H locs h0 B => ?_)
  · have hf := zx_no hf h0
    by_cases he1 : u1 = 1
    · have hf := zif_t he1 hf
      subst he1
      refine vx_catch (E := "java/lang/IndexOutOfBoundsException") (name := "java/lang/IndexOutOfBoundsException") hown [] ⟨0, 9, 12, 13⟩ [] htab (fun z hz => by cases hz) (by decide) (by decide) (hts (.classLink RL 13 "java/lang/IndexOutOfBoundsException") (by decide +kernel)) (((xT B).castable (by decide +kernel)).use rfl) k1 k2 k3 ?_
      refine lv_astore_n (lv' := [(3, .ref q9), (0, .ref (ad 0)), (1, .int a1), (2, .ref (ad 75))]) hx hb dL_pairOf_12 rfl hl (by decide) rfl (fun ls hl => ?_)
      refine lv_iconst (v := (1 : Int32)) hx hb dL_pairOf_13 (by decide) ?_
      refine W.widen (k := 1) (n := 6) (Nat.le_of_ble_eq_true rfl) (Nat.le_of_ble_eq_true rfl) ?_
      exact x_iret hx hb hr rfl hlocks B hf dL_pairOf_14
    have hf := zif_f he1 hf
    cases hf
  have hf := zx_ok hf h0
  refine lv_i2l (v := r2.toInt64) hx hb dL_pairOf_7 rfl ?_
  obtain ⟨hg, hf⟩ := zg_some hf
  refine x_last hx hb B 75 rfl (by decide) (by decide) (fun _ => rfl) (zin_ok hg) dL_pairOf_8 (fun H locs B => ?_)
  refine lv_goto (tgt := 15) hx hb dL_pairOf_9 (by decide) ?_
  refine lv_iconst (v := (0 : Int32)) hx hb dL_pairOf_15 (by decide) ?_
  refine W.widen (k := 1) (n := 6) (Nat.le_of_ble_eq_true rfl) (Nat.le_of_ble_eq_true rfl) ?_
  exact x_iret hx hb hr rfl hlocks B hf dL_pairOf_16
theorem dL_rights_0 : decode cL_rights 0 = .ok (.aload_n 3, 1) := by decide +kernel
theorem dL_rights_1 : decode cL_rights 1 = .ok (.iconst 0, 1) := by decide +kernel
theorem dL_rights_2 : decode cL_rights 2 = .ok (.aload_n 0, 1) := by decide +kernel
theorem dL_rights_3 : decode cL_rights 3 = .ok (.iload_n 1, 1) := by decide +kernel
theorem dL_rights_4 : decode cL_rights 4 = .ok (.iload_n 2, 1) := by decide +kernel
theorem dL_rights_5 : decode cL_rights 5 = .ok (.invokevirtual 106, 3) := by decide +kernel
theorem dL_rights_8 : decode cL_rights 8 = .ok (.i2l, 1) := by decide +kernel
theorem dL_rights_9 : decode cL_rights 9 = .ok (.lastore, 1) := by decide +kernel
theorem dL_rights_10 : decode cL_rights 10 = .ok (.goto 7, 3) := by decide +kernel
theorem dL_rights_13 : decode cL_rights 13 = .ok (.astore 4, 2) := by decide +kernel
theorem dL_rights_15 : decode cL_rights 15 = .ok (.iconst 1, 1) := by decide +kernel
theorem dL_rights_16 : decode cL_rights 16 = .ok (.ireturn, 1) := by decide +kernel
theorem dL_rights_17 : decode cL_rights 17 = .ok (.iconst 0, 1) := by decide +kernel
theorem dL_rights_18 : decode cL_rights 18 = .ok (.ireturn, 1) := by decide +kernel
set_option maxRecDepth 20000 in
theorem ggL_rights_X8_rights : GoodIn wsL_rights wsX8_rights := goodIn_ca (goodIn_ca (goodIn_r _ [6, 7, 8, 9, 10, 11, 5, 12, 13, 14, 15, 16, 17, 18, 19, 20, 21, 22, 23, 24, 25, 26, 27, 28, 29, 30, 31, 32, 33, 34, 35, 36, 37, 38, 39, 40, 41, 42, 43, 44, 45, 46, 47, 48, 49, 50, 51, 52, 53, 54, 55, 56, 57, 58, 59, 60, 61, 62, 63, 64, 65, 66, 67, 68, 69, 70, 71, 72, 73, 74, 75, 76, 77, 78, 79, 80, 81, 82, 83, 84, 85, 86, 87, 88, 89, 90, 91, 92, 93, 94, 95, 96, 97, 98, 99, 100, 101, 102, 103, 104, 105, 106, 107, 108, 109, 110, 111, 112, 113] (by decide +kernel) (by decide +kernel)) (goodIn_sub (fun _ h => List.mem_cons_of_mem _ (List.mem_append_right _ h)) (by decide +kernel))) (goodIn_sub (fun _ h => List.mem_cons_of_mem _ (List.mem_append_left _ (List.mem_append_right _ h))) (by decide +kernel))
set_option maxRecDepth 20000 in
theorem gL_rights_X8_rights : GoodIn wsL_rights (wsV RL 106 RX8 yX8_rights wsX8_rights) := goodIn_app (goodIn_of _ (by decide +kernel)) ggL_rights_X8_rights
def rm_L_rights_0_75 : Room := { frames := 11, cells := 2, slots := 12, locals := 263 }
set_option maxHeartbeats 4000000 in
set_option maxRecDepth 100000 in
theorem c_L_rights_0_75 (l : Launch) (hfl : l.stackTraces = false) {G : zG} {ad : Nat → Nat} {σ σ' : zs} {a1 a2 : Int32} {r : Int32} (hf : f_L_rights_0_75 σ a1 a2 = some (r, σ')) : xMi l yL_rights wsL_rights rm_L_rights_0_75 G ad σ [.ref (ad 0), .int a1, .int a2, .ref (ad 75)] r σ' := by
  intro sz nb a g hs
  refine z_ofWH (cc := cL_rights) (maxL := 5) (ret := (some .int)) (by decide) rfl ?_
  intro p e s m args below meth c s₁ B hml hv
  obtain ⟨rfl, hsz, hv⟩ := hv
  have hx := B.exec
  have hb := B.bytes
  have hr := B.returns
  have hts := atoms_spec (ws := wsL_rights) B.pre
  have hown : s.vm.findClass RL = some m.cls := findClass_of_methodNamed B.named
  have hlocks := B.notSynchronized
  subst hsz
  have htab : c.exceptionTable.toList = [⟨0, 10, 13, 13⟩] := vx_table (x := yL_rights) B (hts (.codeWith yL_rights cL_rights 5 (some .int) [(0, 10, 13, 13)]) List.mem_cons_self)
  have B := xB_start hs hv
  have hl := lv_entry ([.ref (ad 0), .int a1, .int a2, .ref (ad 75)]) (n := 5) (Nat.le_of_ble_eq_true rfl)
  rw [lg_entry_eq]
  generalize (lg_sl ([.ref (ad 0), .int a1, .int a2, .ref (ad 75)]) ++ List.replicate (5 - (lg_sl ([.ref (ad 0), .int a1, .int a2, .ref (ad 75)])).length) Slot.unset).toArray = ls at hl ⊢
  have hl : lv_has ls 5 [(0, .ref (ad 0)), (1, .int a1), (2, .int a2), (3, .ref (ad 75))] := hl
  generalize hAe : xA ad a s.heap.size = A at B ⊢
  unfold f_L_rights_0_75 at hf
  refine lv_aload_n hx hb dL_rights_0 rfl (lv_at hl 3 rfl) ?_
  refine lv_iconst (v := (0 : Int32)) hx hb dL_rights_1 (by decide) ?_
  refine lv_aload_n hx hb dL_rights_2 rfl (lv_at hl 0 rfl) ?_
  refine lv_iload_n hx hb dL_rights_3 rfl (lv_at hl 1 rfl) ?_
  refine lv_iload_n hx hb dL_rights_4 rfl (lv_at hl 2 rfl) ?_
  obtain ⟨u1, r2, σ3, hu1, hf⟩ := zc_some hf
  refine x_xi B (fun nb a g hs Bz => vx_runV (As := [.int a1, .int a2]) (rest := [.int (0 : Int32), .ref (ad 75)]) ⟨hx, hb, hml, hown, hts⟩ (c_X8_rights l hfl hu1 _ nb a g hs) (cwV 2 hts gL_rights_X8_rights rfl rfl rfl (by decide +kernel) ⟨Nat.le_of_ble_eq_true rfl, Nat.le_of_ble_eq_true rfl⟩) (x_preV Bz (by decide) (fun _ => rfl) rfl) rfl rfl hl.1 rfl (lv_room (Nat.le_of_ble_eq_true rfl)) dL_rights_5 ⟨Nat.le_of_ble_eq_true rfl, Nat.le_of_ble_eq_true rfl⟩) (fun H locs ce q9 h0 B k1 k2 k3 => ?_) (fun H locs h0 B => ?_)
  · have hf := zx_no hf h0
    by_cases he1 : u1 = 1
    · have hf := zif_t he1 hf
      subst he1
      refine vx_catch (E := "java/lang/IndexOutOfBoundsException") (name := "java/lang/IndexOutOfBoundsException") hown [] ⟨0, 10, 13, 13⟩ [] htab (fun z hz => by cases hz) (by decide) (by decide) (hts (.classLink RL 13 "java/lang/IndexOutOfBoundsException") (by decide +kernel)) (((xT B).castable (by decide +kernel)).use rfl) k1 k2 k3 ?_
      refine lv_astore (lv' := [(4, .ref q9), (0, .ref (ad 0)), (1, .int a1), (2, .int a2), (3, .ref (ad 75))]) hx hb dL_rights_13 hl (by decide) rfl (fun ls hl => ?_)
      refine lv_iconst (v := (1 : Int32)) hx hb dL_rights_15 (by decide) ?_
      refine W.widen (k := 2) (n := 12) (Nat.le_of_ble_eq_true rfl) (Nat.le_of_ble_eq_true rfl) ?_
      exact x_iret hx hb hr rfl hlocks B hf dL_rights_16
    have hf := zif_f he1 hf
    cases hf
  have hf := zx_ok hf h0
  refine lv_i2l (v := r2.toInt64) hx hb dL_rights_8 rfl ?_
  obtain ⟨hg, hf⟩ := zg_some hf
  refine x_last hx hb B 75 rfl (by decide) (by decide) (fun _ => rfl) (zin_ok hg) dL_rights_9 (fun H locs B => ?_)
  refine lv_goto (tgt := 17) hx hb dL_rights_10 (by decide) ?_
  refine lv_iconst (v := (0 : Int32)) hx hb dL_rights_17 (by decide) ?_
  refine W.widen (k := 2) (n := 12) (Nat.le_of_ble_eq_true rfl) (Nat.le_of_ble_eq_true rfl) ?_
  exact x_iret hx hb hr rfl hlocks B hf dL_rights_18
theorem dL_coming_0 : decode cL_coming 0 = .ok (.aload_n 2, 1) := by decide +kernel
theorem dL_coming_1 : decode cL_coming 1 = .ok (.iconst 0, 1) := by decide +kernel
theorem dL_coming_2 : decode cL_coming 2 = .ok (.aload_n 0, 1) := by decide +kernel
theorem dL_coming_3 : decode cL_coming 3 = .ok (.iload_n 1, 1) := by decide +kernel
theorem dL_coming_4 : decode cL_coming 4 = .ok (.invokevirtual 109, 3) := by decide +kernel
theorem dL_coming_7 : decode cL_coming 7 = .ok (.i2l, 1) := by decide +kernel
theorem dL_coming_8 : decode cL_coming 8 = .ok (.lastore, 1) := by decide +kernel
theorem dL_coming_9 : decode cL_coming 9 = .ok (.goto 6, 3) := by decide +kernel
theorem dL_coming_12 : decode cL_coming 12 = .ok (.astore_n 3, 1) := by decide +kernel
theorem dL_coming_13 : decode cL_coming 13 = .ok (.iconst 1, 1) := by decide +kernel
theorem dL_coming_14 : decode cL_coming 14 = .ok (.ireturn, 1) := by decide +kernel
theorem dL_coming_15 : decode cL_coming 15 = .ok (.iconst 0, 1) := by decide +kernel
theorem dL_coming_16 : decode cL_coming 16 = .ok (.ireturn, 1) := by decide +kernel
set_option maxRecDepth 20000 in
theorem ggL_coming_X8_coming : GoodIn wsL_coming wsX8_coming := goodIn_ca (goodIn_ca (goodIn_r _ [6, 7, 8, 9, 10, 11, 5, 12, 13, 14, 15, 16, 17, 18, 19, 20, 21, 22, 23, 24, 25, 26, 27, 28, 29, 30, 31, 32, 33, 34, 35, 36, 37, 38, 39, 40, 41, 42, 43, 44, 45, 46, 47, 48, 49, 50, 51, 52, 53, 54, 55, 56, 57, 58, 59, 60, 61, 62, 63, 64, 65, 66, 67, 68, 69, 70, 71, 72, 73, 74, 75, 76, 77, 78, 79, 80, 81, 82, 83, 84, 85, 86, 87, 88, 89, 90, 91, 92, 93, 94, 95, 96, 97, 98, 99, 100, 101, 102, 103, 104, 105, 106, 107, 108, 109, 110, 111, 112, 113, 114, 115, 116, 117, 118, 119, 120, 121, 122, 123, 124, 125, 126, 127, 128, 129, 130, 131, 132, 133, 134, 135, 136, 137, 138, 139, 140, 141, 142, 143, 144, 145, 146, 147, 148, 149, 150, 151, 152, 153, 154, 155, 156, 157, 158, 159, 160, 161, 162, 163, 164, 165, 166, 167, 168, 169] (by decide +kernel) (by decide +kernel)) (goodIn_sub (fun _ h => List.mem_cons_of_mem _ (List.mem_append_left _ (List.mem_append_right _ h))) (by decide +kernel))) (goodIn_sub (fun _ h => List.mem_cons_of_mem _ (List.mem_append_right _ h)) (by decide +kernel))
set_option maxRecDepth 20000 in
theorem gL_coming_X8_coming : GoodIn wsL_coming (wsV RL 109 RX8 yX8_coming wsX8_coming) := goodIn_app (goodIn_of _ (by decide +kernel)) ggL_coming_X8_coming
def rm_L_coming_0_75 : Room := { frames := 11, cells := 1, slots := 6, locals := 261 }
set_option maxHeartbeats 4000000 in
set_option maxRecDepth 100000 in
theorem c_L_coming_0_75 (l : Launch) (hfl : l.stackTraces = false) {G : zG} {ad : Nat → Nat} {σ σ' : zs} {a1 : Int32} {r : Int32} (hf : f_L_coming_0_75 σ a1 = some (r, σ')) : xMi l yL_coming wsL_coming rm_L_coming_0_75 G ad σ [.ref (ad 0), .int a1, .ref (ad 75)] r σ' := by
  intro sz nb a g hs
  refine z_ofWH (cc := cL_coming) (maxL := 4) (ret := (some .int)) (by decide) rfl ?_
  intro p e s m args below meth c s₁ B hml hv
  obtain ⟨rfl, hsz, hv⟩ := hv
  have hx := B.exec
  have hb := B.bytes
  have hr := B.returns
  have hts := atoms_spec (ws := wsL_coming) B.pre
  have hown : s.vm.findClass RL = some m.cls := findClass_of_methodNamed B.named
  have hlocks := B.notSynchronized
  subst hsz
  have htab : c.exceptionTable.toList = [⟨0, 9, 12, 13⟩] := vx_table (x := yL_coming) B (hts (.codeWith yL_coming cL_coming 4 (some .int) [(0, 9, 12, 13)]) List.mem_cons_self)
  have B := xB_start hs hv
  have hl := lv_entry ([.ref (ad 0), .int a1, .ref (ad 75)]) (n := 4) (Nat.le_of_ble_eq_true rfl)
  rw [lg_entry_eq]
  generalize (lg_sl ([.ref (ad 0), .int a1, .ref (ad 75)]) ++ List.replicate (4 - (lg_sl ([.ref (ad 0), .int a1, .ref (ad 75)])).length) Slot.unset).toArray = ls at hl ⊢
  have hl : lv_has ls 4 [(0, .ref (ad 0)), (1, .int a1), (2, .ref (ad 75))] := hl
  generalize hAe : xA ad a s.heap.size = A at B ⊢
  unfold f_L_coming_0_75 at hf
  refine lv_aload_n hx hb dL_coming_0 rfl (lv_at hl 2 rfl) ?_
  refine lv_iconst (v := (0 : Int32)) hx hb dL_coming_1 (by decide) ?_
  refine lv_aload_n hx hb dL_coming_2 rfl (lv_at hl 0 rfl) ?_
  refine lv_iload_n hx hb dL_coming_3 rfl (lv_at hl 1 rfl) ?_
  obtain ⟨u1, r2, σ3, hu1, hf⟩ := zc_some hf
  refine x_xi B (fun nb a g hs Bz => vx_runV (As := [.int a1]) (rest := [.int (0 : Int32), .ref (ad 75)]) ⟨hx, hb, hml, hown, hts⟩ (c_X8_coming l hfl hu1 _ nb a g hs) (cwV 1 hts gL_coming_X8_coming rfl rfl rfl (by decide +kernel) ⟨Nat.le_of_ble_eq_true rfl, Nat.le_of_ble_eq_true rfl⟩) (x_preV Bz (by decide) (fun _ => rfl) rfl) rfl rfl hl.1 rfl (lv_room (Nat.le_of_ble_eq_true rfl)) dL_coming_4 ⟨Nat.le_of_ble_eq_true rfl, Nat.le_of_ble_eq_true rfl⟩) (fun H locs ce q9 h0 B k1 k2 k3 => ?_) (fun H locs h0 B => ?_)
  · have hf := zx_no hf h0
    by_cases he1 : u1 = 1
    · have hf := zif_t he1 hf
      subst he1
      refine vx_catch (E := "java/lang/IndexOutOfBoundsException") (name := "java/lang/IndexOutOfBoundsException") hown [] ⟨0, 9, 12, 13⟩ [] htab (fun z hz => by cases hz) (by decide) (by decide) (hts (.classLink RL 13 "java/lang/IndexOutOfBoundsException") (by decide +kernel)) (((xT B).castable (by decide +kernel)).use rfl) k1 k2 k3 ?_
      refine lv_astore_n (lv' := [(3, .ref q9), (0, .ref (ad 0)), (1, .int a1), (2, .ref (ad 75))]) hx hb dL_coming_12 rfl hl (by decide) rfl (fun ls hl => ?_)
      refine lv_iconst (v := (1 : Int32)) hx hb dL_coming_13 (by decide) ?_
      refine W.widen (k := 1) (n := 6) (Nat.le_of_ble_eq_true rfl) (Nat.le_of_ble_eq_true rfl) ?_
      exact x_iret hx hb hr rfl hlocks B hf dL_coming_14
    have hf := zif_f he1 hf
    cases hf
  have hf := zx_ok hf h0
  refine lv_i2l (v := r2.toInt64) hx hb dL_coming_7 rfl ?_
  obtain ⟨hg, hf⟩ := zg_some hf
  refine x_last hx hb B 75 rfl (by decide) (by decide) (fun _ => rfl) (zin_ok hg) dL_coming_8 (fun H locs B => ?_)
  refine lv_goto (tgt := 15) hx hb dL_coming_9 (by decide) ?_
  refine lv_iconst (v := (0 : Int32)) hx hb dL_coming_15 (by decide) ?_
  refine W.widen (k := 1) (n := 6) (Nat.le_of_ble_eq_true rfl) (Nat.le_of_ble_eq_true rfl) ?_
  exact x_iret hx hb hr rfl hlocks B hf dL_coming_16
theorem dL_round_0 : decode cL_round 0 = .ok (.aload_n 3, 1) := by decide +kernel
theorem dL_round_1 : decode cL_round 1 = .ok (.iconst 0, 1) := by decide +kernel
theorem dL_round_2 : decode cL_round 2 = .ok (.aload_n 0, 1) := by decide +kernel
theorem dL_round_3 : decode cL_round 3 = .ok (.iload_n 1, 1) := by decide +kernel
theorem dL_round_4 : decode cL_round 4 = .ok (.iload_n 2, 1) := by decide +kernel
theorem dL_round_5 : decode cL_round 5 = .ok (.invokevirtual 112, 3) := by decide +kernel
theorem dL_round_8 : decode cL_round 8 = .ok (.i2l, 1) := by decide +kernel
theorem dL_round_9 : decode cL_round 9 = .ok (.lastore, 1) := by decide +kernel
theorem dL_round_10 : decode cL_round 10 = .ok (.goto 11, 3) := by decide +kernel
theorem dL_round_13 : decode cL_round 13 = .ok (.astore 4, 2) := by decide +kernel
theorem dL_round_15 : decode cL_round 15 = .ok (.iconst 1, 1) := by decide +kernel
theorem dL_round_16 : decode cL_round 16 = .ok (.ireturn, 1) := by decide +kernel
theorem dL_round_17 : decode cL_round 17 = .ok (.astore 4, 2) := by decide +kernel
theorem dL_round_19 : decode cL_round 19 = .ok (.iconst 2, 1) := by decide +kernel
theorem dL_round_20 : decode cL_round 20 = .ok (.ireturn, 1) := by decide +kernel
theorem dL_round_21 : decode cL_round 21 = .ok (.iconst 0, 1) := by decide +kernel
theorem dL_round_22 : decode cL_round 22 = .ok (.ireturn, 1) := by decide +kernel
set_option maxRecDepth 20000 in
theorem ggL_round_X8_round : GoodIn wsL_round wsX8_round := goodIn_ca (goodIn_ca (goodIn_ca (goodIn_r _ [7, 8, 9, 10, 11, 12, 13, 6, 14, 15, 16, 17, 18, 19, 20, 21, 22, 23, 24, 25, 26, 27, 28, 29, 30, 31, 32, 33, 34, 35, 36, 37, 38, 39, 40, 41, 42, 43, 44, 45, 46, 47, 48, 49, 50, 51, 52, 53, 54, 55, 56, 57, 58, 59, 60, 61, 62, 63, 64, 65, 66, 67, 68, 69, 70, 71, 72, 73, 74, 75, 76, 77, 78, 79, 80, 81, 82, 83, 84, 85, 86, 87, 88, 89, 90, 91, 92, 93, 94, 95, 96, 97, 98, 99, 100, 101, 102, 103, 104, 105, 106, 107, 108, 109, 110, 111, 112, 113, 114, 115, 116, 117, 118, 119, 120, 121, 122, 123, 124, 125, 126, 127, 128, 129, 130, 131, 132, 133, 134, 135, 136, 137, 138, 139, 140, 141, 142, 143, 144, 145, 146, 147, 148, 149, 150, 151, 152, 153, 154, 155, 156, 157, 158, 159, 160, 161, 162, 163, 164, 165, 166, 167, 168, 169, 170, 171, 172, 173, 174, 175, 176, 177, 178, 179, 180, 181, 182, 183] (by decide +kernel) (by decide +kernel)) (goodIn_sub (fun _ h => List.mem_cons_of_mem _ (List.mem_append_left _ (List.mem_append_left _ (List.mem_append_right _ h)))) (by decide +kernel))) (goodIn_sub (fun _ h => List.mem_cons_of_mem _ (List.mem_append_left _ (List.mem_append_right _ h))) (by decide +kernel))) (goodIn_sub (fun _ h => List.mem_cons_of_mem _ (List.mem_append_right _ h)) (by decide +kernel))
set_option maxRecDepth 20000 in
theorem gL_round_X8_round : GoodIn wsL_round (wsV RL 112 RX8 yX8_round wsX8_round) := goodIn_app (goodIn_of _ (by decide +kernel)) ggL_round_X8_round
def rm_L_round_0_75 : Room := { frames := 11, cells := 3, slots := 18, locals := 263 }
set_option maxHeartbeats 4000000 in
set_option maxRecDepth 100000 in
theorem c_L_round_0_75 (l : Launch) (hfl : l.stackTraces = false) {G : zG} {ad : Nat → Nat} {σ σ' : zs} {a1 a2 : Int32} {r : Int32} (hf : f_L_round_0_75 σ a1 a2 = some (r, σ')) : xMi l yL_round wsL_round rm_L_round_0_75 G ad σ [.ref (ad 0), .int a1, .int a2, .ref (ad 75)] r σ' := by
  intro sz nb a g hs
  refine z_ofWH (cc := cL_round) (maxL := 5) (ret := (some .int)) (by decide) rfl ?_
  intro p e s m args below meth c s₁ B hml hv
  obtain ⟨rfl, hsz, hv⟩ := hv
  have hx := B.exec
  have hb := B.bytes
  have hr := B.returns
  have hts := atoms_spec (ws := wsL_round) B.pre
  have hown : s.vm.findClass RL = some m.cls := findClass_of_methodNamed B.named
  have hlocks := B.notSynchronized
  subst hsz
  have htab : c.exceptionTable.toList = [⟨0, 10, 13, 13⟩, ⟨0, 10, 17, 35⟩] := vx_table (x := yL_round) B (hts (.codeWith yL_round cL_round 5 (some .int) [(0, 10, 13, 13), (0, 10, 17, 35)]) List.mem_cons_self)
  have B := xB_start hs hv
  have hl := lv_entry ([.ref (ad 0), .int a1, .int a2, .ref (ad 75)]) (n := 5) (Nat.le_of_ble_eq_true rfl)
  rw [lg_entry_eq]
  generalize (lg_sl ([.ref (ad 0), .int a1, .int a2, .ref (ad 75)]) ++ List.replicate (5 - (lg_sl ([.ref (ad 0), .int a1, .int a2, .ref (ad 75)])).length) Slot.unset).toArray = ls at hl ⊢
  have hl : lv_has ls 5 [(0, .ref (ad 0)), (1, .int a1), (2, .int a2), (3, .ref (ad 75))] := hl
  generalize hAe : xA ad a s.heap.size = A at B ⊢
  unfold f_L_round_0_75 at hf
  refine lv_aload_n hx hb dL_round_0 rfl (lv_at hl 3 rfl) ?_
  refine lv_iconst (v := (0 : Int32)) hx hb dL_round_1 (by decide) ?_
  refine lv_aload_n hx hb dL_round_2 rfl (lv_at hl 0 rfl) ?_
  refine lv_iload_n hx hb dL_round_3 rfl (lv_at hl 1 rfl) ?_
  refine lv_iload_n hx hb dL_round_4 rfl (lv_at hl 2 rfl) ?_
  obtain ⟨u1, r2, σ3, hu1, hf⟩ := zc_some hf
  refine x_xi B (fun nb a g hs Bz => vx_runV (As := [.int a1, .int a2]) (rest := [.int (0 : Int32), .ref (ad 75)]) ⟨hx, hb, hml, hown, hts⟩ (c_X8_round l hfl hu1 _ nb a g hs) (cwV 2 hts gL_round_X8_round rfl rfl rfl (by decide +kernel) ⟨Nat.le_of_ble_eq_true rfl, Nat.le_of_ble_eq_true rfl⟩) (x_preV Bz (by decide) (fun _ => rfl) rfl) rfl rfl hl.1 rfl (lv_room (Nat.le_of_ble_eq_true rfl)) dL_round_5 ⟨Nat.le_of_ble_eq_true rfl, Nat.le_of_ble_eq_true rfl⟩) (fun H locs ce q9 h0 B k1 k2 k3 => ?_) (fun H locs h0 B => ?_)
  · have hf := zx_no hf h0
    by_cases he1 : u1 = 1
    · have hf := zif_t he1 hf
      subst he1
      refine vx_catch (E := "java/lang/IndexOutOfBoundsException") (name := "java/lang/IndexOutOfBoundsException") hown [] ⟨0, 10, 13, 13⟩ [⟨0, 10, 17, 35⟩] htab (fun z hz => by cases hz) (by decide) (by decide) (hts (.classLink RL 13 "java/lang/IndexOutOfBoundsException") (by decide +kernel)) (((xT B).castable (by decide +kernel)).use rfl) k1 k2 k3 ?_
      refine lv_astore (lv' := [(4, .ref q9), (0, .ref (ad 0)), (1, .int a1), (2, .int a2), (3, .ref (ad 75))]) hx hb dL_round_13 hl (by decide) rfl (fun ls hl => ?_)
      refine lv_iconst (v := (1 : Int32)) hx hb dL_round_15 (by decide) ?_
      refine W.widen (k := 3) (n := 18) (Nat.le_of_ble_eq_true rfl) (Nat.le_of_ble_eq_true rfl) ?_
      exact x_iret hx hb hr rfl hlocks B hf dL_round_16
    have hf := zif_f he1 hf
    by_cases he5 : u1 = 5
    · have hf := zif_t he5 hf
      subst he5
      refine vx_catch (E := "java/util/NoSuchElementException") (name := "java/util/NoSuchElementException") hown [⟨0, 10, 13, 13⟩] ⟨0, 10, 17, 35⟩ [] htab (fun z hz => by simp only [List.mem_cons, List.not_mem_nil, or_false] at hz; rcases hz with rfl <;> first | exact Or.inr ⟨by decide, _, hts (.classLink RL 13 "java/lang/IndexOutOfBoundsException") (by decide +kernel), (xT B).apart (by decide +kernel) (by decide +kernel) (by decide +kernel)⟩) (by decide) (by decide) (hts (.classLink RL 35 "java/util/NoSuchElementException") (by decide +kernel)) (((xT B).castable (by decide +kernel)).use rfl) k1 k2 k3 ?_
      refine lv_astore (lv' := [(4, .ref q9), (0, .ref (ad 0)), (1, .int a1), (2, .int a2), (3, .ref (ad 75))]) hx hb dL_round_17 hl (by decide) rfl (fun ls hl => ?_)
      refine lv_iconst (v := (2 : Int32)) hx hb dL_round_19 (by decide) ?_
      refine W.widen (k := 3) (n := 18) (Nat.le_of_ble_eq_true rfl) (Nat.le_of_ble_eq_true rfl) ?_
      exact x_iret hx hb hr rfl hlocks B hf dL_round_20
    have hf := zif_f he5 hf
    cases hf
  have hf := zx_ok hf h0
  refine lv_i2l (v := r2.toInt64) hx hb dL_round_8 rfl ?_
  obtain ⟨hg, hf⟩ := zg_some hf
  refine x_last hx hb B 75 rfl (by decide) (by decide) (fun _ => rfl) (zin_ok hg) dL_round_9 (fun H locs B => ?_)
  refine lv_goto (tgt := 21) hx hb dL_round_10 (by decide) ?_
  refine lv_iconst (v := (0 : Int32)) hx hb dL_round_21 (by decide) ?_
  refine W.widen (k := 3) (n := 18) (Nat.le_of_ble_eq_true rfl) (Nat.le_of_ble_eq_true rfl) ?_
  exact x_iret hx hb hr rfl hlocks B hf dL_round_22
theorem dL_reached_0 : decode cL_reached 0 = .ok (.aload_n 2, 1) := by decide +kernel
theorem dL_reached_1 : decode cL_reached 1 = .ok (.iconst 0, 1) := by decide +kernel
theorem dL_reached_2 : decode cL_reached 2 = .ok (.aload_n 0, 1) := by decide +kernel
theorem dL_reached_3 : decode cL_reached 3 = .ok (.iload_n 1, 1) := by decide +kernel
theorem dL_reached_4 : decode cL_reached 4 = .ok (.invokevirtual 115, 3) := by decide +kernel
theorem dL_reached_7 : decode cL_reached 7 = .ok (.i2l, 1) := by decide +kernel
theorem dL_reached_8 : decode cL_reached 8 = .ok (.lastore, 1) := by decide +kernel
theorem dL_reached_9 : decode cL_reached 9 = .ok (.goto 6, 3) := by decide +kernel
theorem dL_reached_12 : decode cL_reached 12 = .ok (.astore_n 3, 1) := by decide +kernel
theorem dL_reached_13 : decode cL_reached 13 = .ok (.iconst 1, 1) := by decide +kernel
theorem dL_reached_14 : decode cL_reached 14 = .ok (.ireturn, 1) := by decide +kernel
theorem dL_reached_15 : decode cL_reached 15 = .ok (.iconst 0, 1) := by decide +kernel
theorem dL_reached_16 : decode cL_reached 16 = .ok (.ireturn, 1) := by decide +kernel
set_option maxRecDepth 20000 in
theorem ggL_reached_X8_reached : GoodIn wsL_reached wsX8_reached := goodIn_ca (goodIn_ca (goodIn_r _ [6, 7, 8, 9, 10, 11, 5, 12, 13, 14, 15, 16, 17, 18, 19, 20, 21, 22, 23, 24, 25, 26, 27, 28, 29, 30, 31, 32, 33, 34, 35, 36, 37, 38, 39, 40, 41, 42, 43, 44, 45, 46, 47, 48, 49, 50, 51, 52, 53, 54, 55, 56, 57, 58, 59, 60, 61, 62, 63, 64, 65, 66, 67, 68, 69, 70, 71, 72, 73, 74, 75, 76, 77, 78, 79, 80, 81, 82, 83, 84, 85, 86, 87, 88, 89, 90, 91, 92, 93, 94, 95, 96, 97, 98, 99, 100, 101, 102, 103, 104, 105, 106, 107, 108, 109, 110, 111, 112, 113, 114, 115, 116, 117, 118, 119, 120, 121, 122, 123, 124, 125, 126, 127, 128, 129, 130, 131, 132, 133, 134, 135, 136, 137, 138, 139, 140, 141, 142, 143, 144, 145, 146, 147, 148, 149, 150, 151, 152, 153, 154, 155, 156, 157, 158, 159, 160, 161, 162, 163, 164, 165, 166, 167, 168, 169, 170, 171, 172, 173] (by decide +kernel) (by decide +kernel)) (goodIn_sub (fun _ h => List.mem_cons_of_mem _ (List.mem_append_right _ h)) (by decide +kernel))) (goodIn_sub (fun _ h => List.mem_cons_of_mem _ (List.mem_append_left _ (List.mem_append_right _ h))) (by decide +kernel))
set_option maxRecDepth 20000 in
theorem gL_reached_X8_reached : GoodIn wsL_reached (wsV RL 115 RX8 yX8_reached wsX8_reached) := goodIn_app (goodIn_of _ (by decide +kernel)) ggL_reached_X8_reached
def rm_L_reached_0_75 : Room := { frames := 11, cells := 1, slots := 6, locals := 261 }
set_option maxHeartbeats 4000000 in
set_option maxRecDepth 100000 in
theorem c_L_reached_0_75 (l : Launch) (hfl : l.stackTraces = false) {G : zG} {ad : Nat → Nat} {σ σ' : zs} {a1 : Int32} {r : Int32} (hf : f_L_reached_0_75 σ a1 = some (r, σ')) : xMi l yL_reached wsL_reached rm_L_reached_0_75 G ad σ [.ref (ad 0), .int a1, .ref (ad 75)] r σ' := by
  intro sz nb a g hs
  refine z_ofWH (cc := cL_reached) (maxL := 4) (ret := (some .int)) (by decide) rfl ?_
  intro p e s m args below meth c s₁ B hml hv
  obtain ⟨rfl, hsz, hv⟩ := hv
  have hx := B.exec
  have hb := B.bytes
  have hr := B.returns
  have hts := atoms_spec (ws := wsL_reached) B.pre
  have hown : s.vm.findClass RL = some m.cls := findClass_of_methodNamed B.named
  have hlocks := B.notSynchronized
  subst hsz
  have htab : c.exceptionTable.toList = [⟨0, 9, 12, 13⟩] := vx_table (x := yL_reached) B (hts (.codeWith yL_reached cL_reached 4 (some .int) [(0, 9, 12, 13)]) List.mem_cons_self)
  have B := xB_start hs hv
  have hl := lv_entry ([.ref (ad 0), .int a1, .ref (ad 75)]) (n := 4) (Nat.le_of_ble_eq_true rfl)
  rw [lg_entry_eq]
  generalize (lg_sl ([.ref (ad 0), .int a1, .ref (ad 75)]) ++ List.replicate (4 - (lg_sl ([.ref (ad 0), .int a1, .ref (ad 75)])).length) Slot.unset).toArray = ls at hl ⊢
  have hl : lv_has ls 4 [(0, .ref (ad 0)), (1, .int a1), (2, .ref (ad 75))] := hl
  generalize hAe : xA ad a s.heap.size = A at B ⊢
  unfold f_L_reached_0_75 at hf
  refine lv_aload_n hx hb dL_reached_0 rfl (lv_at hl 2 rfl) ?_
  refine lv_iconst (v := (0 : Int32)) hx hb dL_reached_1 (by decide) ?_
  refine lv_aload_n hx hb dL_reached_2 rfl (lv_at hl 0 rfl) ?_
  refine lv_iload_n hx hb dL_reached_3 rfl (lv_at hl 1 rfl) ?_
  obtain ⟨u1, r2, σ3, hu1, hf⟩ := zc_some hf
  refine x_xi B (fun nb a g hs Bz => vx_runV (As := [.int a1]) (rest := [.int (0 : Int32), .ref (ad 75)]) ⟨hx, hb, hml, hown, hts⟩ (c_X8_reached l hfl hu1 _ nb a g hs) (cwV 1 hts gL_reached_X8_reached rfl rfl rfl (by decide +kernel) ⟨Nat.le_of_ble_eq_true rfl, Nat.le_of_ble_eq_true rfl⟩) (x_preV Bz (by decide) (fun _ => rfl) rfl) rfl rfl hl.1 rfl (lv_room (Nat.le_of_ble_eq_true rfl)) dL_reached_4 ⟨Nat.le_of_ble_eq_true rfl, Nat.le_of_ble_eq_true rfl⟩) (fun H locs ce q9 h0 B k1 k2 k3 => ?_) (fun H locs h0 B => ?_)
  · have hf := zx_no hf h0
    by_cases he1 : u1 = 1
    · have hf := zif_t he1 hf
      subst he1
      refine vx_catch (E := "java/lang/IndexOutOfBoundsException") (name := "java/lang/IndexOutOfBoundsException") hown [] ⟨0, 9, 12, 13⟩ [] htab (fun z hz => by cases hz) (by decide) (by decide) (hts (.classLink RL 13 "java/lang/IndexOutOfBoundsException") (by decide +kernel)) (((xT B).castable (by decide +kernel)).use rfl) k1 k2 k3 ?_
      refine lv_astore_n (lv' := [(3, .ref q9), (0, .ref (ad 0)), (1, .int a1), (2, .ref (ad 75))]) hx hb dL_reached_12 rfl hl (by decide) rfl (fun ls hl => ?_)
      refine lv_iconst (v := (1 : Int32)) hx hb dL_reached_13 (by decide) ?_
      refine W.widen (k := 1) (n := 6) (Nat.le_of_ble_eq_true rfl) (Nat.le_of_ble_eq_true rfl) ?_
      exact x_iret hx hb hr rfl hlocks B hf dL_reached_14
    have hf := zif_f he1 hf
    cases hf
  have hf := zx_ok hf h0
  refine lv_i2l (v := r2.toInt64) hx hb dL_reached_7 rfl ?_
  obtain ⟨hg, hf⟩ := zg_some hf
  refine x_last hx hb B 75 rfl (by decide) (by decide) (fun _ => rfl) (zin_ok hg) dL_reached_8 (fun H locs B => ?_)
  refine lv_goto (tgt := 15) hx hb dL_reached_9 (by decide) ?_
  refine lv_iconst (v := (0 : Int32)) hx hb dL_reached_15 (by decide) ?_
  refine W.widen (k := 1) (n := 6) (Nat.le_of_ble_eq_true rfl) (Nat.le_of_ble_eq_true rfl) ?_
  exact x_iret hx hb hr rfl hlocks B hf dL_reached_16
theorem dL_isConfined_0 : decode cL_isConfined 0 = .ok (.aload_n 3, 1) := by decide +kernel
theorem dL_isConfined_1 : decode cL_isConfined 1 = .ok (.iconst 0, 1) := by decide +kernel
theorem dL_isConfined_2 : decode cL_isConfined 2 = .ok (.aload_n 0, 1) := by decide +kernel
theorem dL_isConfined_3 : decode cL_isConfined 3 = .ok (.iload_n 1, 1) := by decide +kernel
theorem dL_isConfined_4 : decode cL_isConfined 4 = .ok (.iload_n 2, 1) := by decide +kernel
theorem dL_isConfined_5 : decode cL_isConfined 5 = .ok (.invokevirtual 118, 3) := by decide +kernel
theorem dL_isConfined_8 : decode cL_isConfined 8 = .ok (.ifCond .eq 7, 3) := by decide +kernel
theorem dL_isConfined_11 : decode cL_isConfined 11 = .ok (.lconst 1, 1) := by decide +kernel
theorem dL_isConfined_12 : decode cL_isConfined 12 = .ok (.goto 4, 3) := by decide +kernel
theorem dL_isConfined_15 : decode cL_isConfined 15 = .ok (.lconst 0, 1) := by decide +kernel
theorem dL_isConfined_16 : decode cL_isConfined 16 = .ok (.lastore, 1) := by decide +kernel
theorem dL_isConfined_17 : decode cL_isConfined 17 = .ok (.goto 11, 3) := by decide +kernel
theorem dL_isConfined_20 : decode cL_isConfined 20 = .ok (.astore 4, 2) := by decide +kernel
theorem dL_isConfined_22 : decode cL_isConfined 22 = .ok (.iconst 1, 1) := by decide +kernel
theorem dL_isConfined_23 : decode cL_isConfined 23 = .ok (.ireturn, 1) := by decide +kernel
theorem dL_isConfined_24 : decode cL_isConfined 24 = .ok (.astore 4, 2) := by decide +kernel
theorem dL_isConfined_26 : decode cL_isConfined 26 = .ok (.iconst 2, 1) := by decide +kernel
theorem dL_isConfined_27 : decode cL_isConfined 27 = .ok (.ireturn, 1) := by decide +kernel
theorem dL_isConfined_28 : decode cL_isConfined 28 = .ok (.iconst 0, 1) := by decide +kernel
theorem dL_isConfined_29 : decode cL_isConfined 29 = .ok (.ireturn, 1) := by decide +kernel
set_option maxRecDepth 20000 in
theorem ggL_isConfined_X8_isConfined : GoodIn wsL_isConfined wsX8_isConfined := goodIn_ca (goodIn_ca (goodIn_ca (goodIn_r _ [7, 8, 9, 10, 11, 12, 6, 13, 14, 15, 16, 17, 18, 19, 20, 21, 22, 23, 24, 25, 26, 27, 28, 29, 30, 31, 32, 33, 34, 35, 36, 37, 38, 39, 40, 41, 42, 43, 44, 45, 46, 47, 48, 49, 50, 51, 52, 53, 54, 55, 56, 57, 58, 59, 60, 61, 62, 63, 64, 65, 66, 67, 68, 69, 70, 71, 72, 73, 74, 75, 76, 77, 78, 79, 80, 81, 82, 83, 84, 85, 86, 87, 88, 89, 90, 91, 92, 93, 94, 95, 96, 97, 98, 99, 100, 101, 102, 103, 104, 105, 106, 107, 108, 109, 110, 111, 112, 113, 114, 115, 116, 117, 118, 119, 120, 121, 122, 123, 124, 125, 126, 127, 128, 129, 130, 131, 132, 133, 134, 135, 136, 137, 138, 139, 140, 141, 142, 143, 144, 145, 146, 147, 148, 149, 150, 151, 152, 153, 154, 155, 156, 157, 158, 159, 160, 161, 162, 163, 164, 165, 166, 167, 168, 169, 170, 171, 172, 173, 174, 175, 176, 177, 178, 179] (by decide +kernel) (by decide +kernel)) (goodIn_sub (fun _ h => List.mem_cons_of_mem _ (List.mem_append_left _ (List.mem_append_right _ h))) (by decide +kernel))) (goodIn_sub (fun _ h => List.mem_cons_of_mem _ (List.mem_append_right _ h)) (by decide +kernel))) (goodIn_sub (fun _ h => List.mem_cons_of_mem _ (List.mem_append_left _ (List.mem_append_left _ (List.mem_append_right _ h)))) (by decide +kernel))
set_option maxRecDepth 20000 in
theorem gL_isConfined_X8_isConfined : GoodIn wsL_isConfined (wsV RL 118 RX8 yX8_isConfined wsX8_isConfined) := goodIn_app (goodIn_of _ (by decide +kernel)) ggL_isConfined_X8_isConfined
def rm_L_isConfined_0_75 : Room := { frames := 11, cells := 2, slots := 12, locals := 262 }
set_option maxHeartbeats 4000000 in
set_option maxRecDepth 100000 in
theorem c_L_isConfined_0_75 (l : Launch) (hfl : l.stackTraces = false) {G : zG} {ad : Nat → Nat} {σ σ' : zs} {a1 a2 : Int32} {r : Int32} (hf : f_L_isConfined_0_75 σ a1 a2 = some (r, σ')) : xMi l yL_isConfined wsL_isConfined rm_L_isConfined_0_75 G ad σ [.ref (ad 0), .int a1, .int a2, .ref (ad 75)] r σ' := by
  intro sz nb a g hs
  refine z_ofWH (cc := cL_isConfined) (maxL := 5) (ret := (some .int)) (by decide) rfl ?_
  intro p e s m args below meth c s₁ B hml hv
  obtain ⟨rfl, hsz, hv⟩ := hv
  have hx := B.exec
  have hb := B.bytes
  have hr := B.returns
  have hts := atoms_spec (ws := wsL_isConfined) B.pre
  have hown : s.vm.findClass RL = some m.cls := findClass_of_methodNamed B.named
  have hlocks := B.notSynchronized
  subst hsz
  have htab : c.exceptionTable.toList = [⟨0, 17, 20, 13⟩, ⟨0, 17, 24, 15⟩] := vx_table (x := yL_isConfined) B (hts (.codeWith yL_isConfined cL_isConfined 5 (some .int) [(0, 17, 20, 13), (0, 17, 24, 15)]) List.mem_cons_self)
  have B := xB_start hs hv
  have hl := lv_entry ([.ref (ad 0), .int a1, .int a2, .ref (ad 75)]) (n := 5) (Nat.le_of_ble_eq_true rfl)
  rw [lg_entry_eq]
  generalize (lg_sl ([.ref (ad 0), .int a1, .int a2, .ref (ad 75)]) ++ List.replicate (5 - (lg_sl ([.ref (ad 0), .int a1, .int a2, .ref (ad 75)])).length) Slot.unset).toArray = ls at hl ⊢
  have hl : lv_has ls 5 [(0, .ref (ad 0)), (1, .int a1), (2, .int a2), (3, .ref (ad 75))] := hl
  generalize hAe : xA ad a s.heap.size = A at B ⊢
  unfold f_L_isConfined_0_75 at hf
  refine lv_aload_n hx hb dL_isConfined_0 rfl (lv_at hl 3 rfl) ?_
  refine lv_iconst (v := (0 : Int32)) hx hb dL_isConfined_1 (by decide) ?_
  refine lv_aload_n hx hb dL_isConfined_2 rfl (lv_at hl 0 rfl) ?_
  refine lv_iload_n hx hb dL_isConfined_3 rfl (lv_at hl 1 rfl) ?_
  refine lv_iload_n hx hb dL_isConfined_4 rfl (lv_at hl 2 rfl) ?_
  obtain ⟨u1, r2, σ3, hu1, hf⟩ := zc_some hf
  refine x_xi B (fun nb a g hs Bz => vx_runV (As := [.int a1, .int a2]) (rest := [.int (0 : Int32), .ref (ad 75)]) ⟨hx, hb, hml, hown, hts⟩ (c_X8_isConfined l hfl hu1 _ nb a g hs) (cwV 2 hts gL_isConfined_X8_isConfined rfl rfl rfl (by decide +kernel) ⟨Nat.le_of_ble_eq_true rfl, Nat.le_of_ble_eq_true rfl⟩) (x_preV Bz (by decide) (fun _ => rfl) rfl) rfl rfl hl.1 rfl (lv_room (Nat.le_of_ble_eq_true rfl)) dL_isConfined_5 ⟨Nat.le_of_ble_eq_true rfl, Nat.le_of_ble_eq_true rfl⟩) (fun H locs ce q9 h0 B k1 k2 k3 => ?_) (fun H locs h0 B => ?_)
  · have hf := zx_no hf h0
    by_cases he1 : u1 = 1
    · have hf := zif_t he1 hf
      subst he1
      refine vx_catch (E := "java/lang/IndexOutOfBoundsException") (name := "java/lang/IndexOutOfBoundsException") hown [] ⟨0, 17, 20, 13⟩ [⟨0, 17, 24, 15⟩] htab (fun z hz => by cases hz) (by decide) (by decide) (hts (.classLink RL 13 "java/lang/IndexOutOfBoundsException") (by decide +kernel)) (((xT B).castable (by decide +kernel)).use rfl) k1 k2 k3 ?_
      refine lv_astore (lv' := [(4, .ref q9), (0, .ref (ad 0)), (1, .int a1), (2, .int a2), (3, .ref (ad 75))]) hx hb dL_isConfined_20 hl (by decide) rfl (fun ls hl => ?_)
      refine lv_iconst (v := (1 : Int32)) hx hb dL_isConfined_22 (by decide) ?_
      refine W.widen (k := 2) (n := 12) (Nat.le_of_ble_eq_true rfl) (Nat.le_of_ble_eq_true rfl) ?_
      exact x_iret hx hb hr rfl hlocks B hf dL_isConfined_23
    have hf := zif_f he1 hf
    by_cases he2 : u1 = 2
    · have hf := zif_t he2 hf
      subst he2
      refine vx_catch (E := "java/lang/IllegalArgumentException") (name := "java/lang/IllegalArgumentException") hown [⟨0, 17, 20, 13⟩] ⟨0, 17, 24, 15⟩ [] htab (fun z hz => by simp only [List.mem_cons, List.not_mem_nil, or_false] at hz; rcases hz with rfl <;> first | exact Or.inr ⟨by decide, _, hts (.classLink RL 13 "java/lang/IndexOutOfBoundsException") (by decide +kernel), (xT B).apart (by decide +kernel) (by decide +kernel) (by decide +kernel)⟩) (by decide) (by decide) (hts (.classLink RL 15 "java/lang/IllegalArgumentException") (by decide +kernel)) (((xT B).castable (by decide +kernel)).use rfl) k1 k2 k3 ?_
      refine lv_astore (lv' := [(4, .ref q9), (0, .ref (ad 0)), (1, .int a1), (2, .int a2), (3, .ref (ad 75))]) hx hb dL_isConfined_24 hl (by decide) rfl (fun ls hl => ?_)
      refine lv_iconst (v := (2 : Int32)) hx hb dL_isConfined_26 (by decide) ?_
      refine W.widen (k := 2) (n := 12) (Nat.le_of_ble_eq_true rfl) (Nat.le_of_ble_eq_true rfl) ?_
      exact x_iret hx hb hr rfl hlocks B hf dL_isConfined_27
    have hf := zif_f he2 hf
    cases hf
  have hf := zx_ok hf h0
  refine lv_if_eq (tgt := 15) hx hb dL_isConfined_8 (by decide) (fun hc => ?_) (fun hc => ?_)
  · have hf := zif_t hc hf
    refine lv_lconst (v := (0 : Int32).toInt64) hx hb dL_isConfined_15 (by decide) ?_
    obtain ⟨hg, hf⟩ := zg_some hf
    refine x_last hx hb B 75 rfl (by decide) (by decide) (fun _ => rfl) (zin_ok hg) dL_isConfined_16 (fun H locs B => ?_)
    refine lv_goto (tgt := 28) hx hb dL_isConfined_17 (by decide) ?_
    refine lv_iconst (v := (0 : Int32)) hx hb dL_isConfined_28 (by decide) ?_
    refine W.widen (k := 2) (n := 12) (Nat.le_of_ble_eq_true rfl) (Nat.le_of_ble_eq_true rfl) ?_
    exact x_iret hx hb hr rfl hlocks B hf dL_isConfined_29
  · have hf := zif_f hc hf
    refine lv_lconst (v := (1 : Int32).toInt64) hx hb dL_isConfined_11 (by decide) ?_
    refine lv_goto (tgt := 16) hx hb dL_isConfined_12 (by decide) ?_
    obtain ⟨hg, hf⟩ := zg_some hf
    refine x_last hx hb B 75 rfl (by decide) (by decide) (fun _ => rfl) (zin_ok hg) dL_isConfined_16 (fun H locs B => ?_)
    refine lv_goto (tgt := 28) hx hb dL_isConfined_17 (by decide) ?_
    refine lv_iconst (v := (0 : Int32)) hx hb dL_isConfined_28 (by decide) ?_
    refine W.widen (k := 2) (n := 12) (Nat.le_of_ble_eq_true rfl) (Nat.le_of_ble_eq_true rfl) ?_
    exact x_iret hx hb hr rfl hlocks B hf dL_isConfined_29
theorem dL_count_0 : decode cL_count 0 = .ok (.aload_n 2, 1) := by decide +kernel
theorem dL_count_1 : decode cL_count 1 = .ok (.iconst 0, 1) := by decide +kernel
theorem dL_count_2 : decode cL_count 2 = .ok (.aload_n 0, 1) := by decide +kernel
theorem dL_count_3 : decode cL_count 3 = .ok (.iload_n 1, 1) := by decide +kernel
theorem dL_count_4 : decode cL_count 4 = .ok (.invokevirtual 122, 3) := by decide +kernel
theorem dL_count_7 : decode cL_count 7 = .ok (.i2l, 1) := by decide +kernel
theorem dL_count_8 : decode cL_count 8 = .ok (.lastore, 1) := by decide +kernel
theorem dL_count_9 : decode cL_count 9 = .ok (.goto 6, 3) := by decide +kernel
theorem dL_count_12 : decode cL_count 12 = .ok (.astore_n 3, 1) := by decide +kernel
theorem dL_count_13 : decode cL_count 13 = .ok (.iconst 1, 1) := by decide +kernel
theorem dL_count_14 : decode cL_count 14 = .ok (.ireturn, 1) := by decide +kernel
theorem dL_count_15 : decode cL_count 15 = .ok (.iconst 0, 1) := by decide +kernel
theorem dL_count_16 : decode cL_count 16 = .ok (.ireturn, 1) := by decide +kernel
set_option maxRecDepth 20000 in
theorem ggL_count_X8_count : GoodIn wsL_count wsX8_count := goodIn_ca (goodIn_ca (goodIn_r _ [6, 7, 8, 9, 10, 11, 12, 13, 14, 15, 16, 17, 18, 19, 20, 21, 5, 22, 23, 24, 25, 26, 27, 28, 29, 30, 31, 32, 33, 34, 35, 36, 37, 38, 39, 40, 41, 42, 43, 44, 45, 46, 47, 48, 49, 50, 51, 52, 53, 54, 55, 56, 57, 58, 59, 60, 61, 62, 63, 64, 65, 66, 67, 68, 69, 70, 71, 72, 73, 74, 75, 76, 77, 78, 79, 80, 81, 82, 83, 84, 85, 86, 87, 88, 89, 90, 91] (by decide +kernel) (by decide +kernel)) (goodIn_sub (fun _ h => List.mem_cons_of_mem _ (List.mem_append_right _ h)) (by decide +kernel))) (goodIn_sub (fun _ h => List.mem_cons_of_mem _ (List.mem_append_left _ (List.mem_append_right _ h))) (by decide +kernel))
set_option maxRecDepth 20000 in
theorem gL_count_X8_count : GoodIn wsL_count (wsV RL 122 RX8 yX8_count wsX8_count) := goodIn_app (goodIn_of _ (by decide +kernel)) ggL_count_X8_count
def rm_L_count_0_75 : Room := { frames := 10, cells := 1, slots := 6, locals := 241 }
set_option maxHeartbeats 4000000 in
set_option maxRecDepth 100000 in
theorem c_L_count_0_75 (l : Launch) (hfl : l.stackTraces = false) {G : zG} {ad : Nat → Nat} {σ σ' : zs} {a1 : Int32} {r : Int32} (hf : f_L_count_0_75 σ a1 = some (r, σ')) : xMi l yL_count wsL_count rm_L_count_0_75 G ad σ [.ref (ad 0), .int a1, .ref (ad 75)] r σ' := by
  intro sz nb a g hs
  refine z_ofWH (cc := cL_count) (maxL := 4) (ret := (some .int)) (by decide) rfl ?_
  intro p e s m args below meth c s₁ B hml hv
  obtain ⟨rfl, hsz, hv⟩ := hv
  have hx := B.exec
  have hb := B.bytes
  have hr := B.returns
  have hts := atoms_spec (ws := wsL_count) B.pre
  have hown : s.vm.findClass RL = some m.cls := findClass_of_methodNamed B.named
  have hlocks := B.notSynchronized
  subst hsz
  have htab : c.exceptionTable.toList = [⟨0, 9, 12, 15⟩] := vx_table (x := yL_count) B (hts (.codeWith yL_count cL_count 4 (some .int) [(0, 9, 12, 15)]) List.mem_cons_self)
  have B := xB_start hs hv
  have hl := lv_entry ([.ref (ad 0), .int a1, .ref (ad 75)]) (n := 4) (Nat.le_of_ble_eq_true rfl)
  rw [lg_entry_eq]
  generalize (lg_sl ([.ref (ad 0), .int a1, .ref (ad 75)]) ++ List.replicate (4 - (lg_sl ([.ref (ad 0), .int a1, .ref (ad 75)])).length) Slot.unset).toArray = ls at hl ⊢
  have hl : lv_has ls 4 [(0, .ref (ad 0)), (1, .int a1), (2, .ref (ad 75))] := hl
  generalize hAe : xA ad a s.heap.size = A at B ⊢
  unfold f_L_count_0_75 at hf
  refine lv_aload_n hx hb dL_count_0 rfl (lv_at hl 2 rfl) ?_
  refine lv_iconst (v := (0 : Int32)) hx hb dL_count_1 (by decide) ?_
  refine lv_aload_n hx hb dL_count_2 rfl (lv_at hl 0 rfl) ?_
  refine lv_iload_n hx hb dL_count_3 rfl (lv_at hl 1 rfl) ?_
  obtain ⟨u1, r2, σ3, hu1, hf⟩ := zc_some hf
  refine x_xi B (fun nb a g hs Bz => vx_runV (As := [.int a1]) (rest := [.int (0 : Int32), .ref (ad 75)]) ⟨hx, hb, hml, hown, hts⟩ (c_X8_count l hfl hu1 _ nb a g hs) (cwV 1 hts gL_count_X8_count rfl rfl rfl (by decide +kernel) ⟨Nat.le_of_ble_eq_true rfl, Nat.le_of_ble_eq_true rfl⟩) (x_preV Bz (by decide) (fun _ => rfl) rfl) rfl rfl hl.1 rfl (lv_room (Nat.le_of_ble_eq_true rfl)) dL_count_4 ⟨Nat.le_of_ble_eq_true rfl, Nat.le_of_ble_eq_true rfl⟩) (fun H locs ce q9 h0 B k1 k2 k3 => ?_) (fun H locs h0 B => ?_)
  · have hf := zx_no hf h0
    by_cases he2 : u1 = 2
    · have hf := zif_t he2 hf
      subst he2
      refine vx_catch (E := "java/lang/IllegalArgumentException") (name := "java/lang/IllegalArgumentException") hown [] ⟨0, 9, 12, 15⟩ [] htab (fun z hz => by cases hz) (by decide) (by decide) (hts (.classLink RL 15 "java/lang/IllegalArgumentException") (by decide +kernel)) (((xT B).castable (by decide +kernel)).use rfl) k1 k2 k3 ?_
      refine lv_astore_n (lv' := [(3, .ref q9), (0, .ref (ad 0)), (1, .int a1), (2, .ref (ad 75))]) hx hb dL_count_12 rfl hl (by decide) rfl (fun ls hl => ?_)
      refine lv_iconst (v := (1 : Int32)) hx hb dL_count_13 (by decide) ?_
      refine W.widen (k := 1) (n := 6) (Nat.le_of_ble_eq_true rfl) (Nat.le_of_ble_eq_true rfl) ?_
      exact x_iret hx hb hr rfl hlocks B hf dL_count_14
    have hf := zif_f he2 hf
    cases hf
  have hf := zx_ok hf h0
  refine lv_i2l (v := r2.toInt64) hx hb dL_count_7 rfl ?_
  obtain ⟨hg, hf⟩ := zg_some hf
  refine x_last hx hb B 75 rfl (by decide) (by decide) (fun _ => rfl) (zin_ok hg) dL_count_8 (fun H locs B => ?_)
  refine lv_goto (tgt := 15) hx hb dL_count_9 (by decide) ?_
  refine lv_iconst (v := (0 : Int32)) hx hb dL_count_15 (by decide) ?_
  refine W.widen (k := 1) (n := 6) (Nat.le_of_ble_eq_true rfl) (Nat.le_of_ble_eq_true rfl) ?_
  exact x_iret hx hb hr rfl hlocks B hf dL_count_16
theorem dL_restore_0 : decode cL_restore 0 = .ok (.aload_n 1, 1) := by decide +kernel
theorem dL_restore_1 : decode cL_restore 1 = .ok (.iconst 0, 1) := by decide +kernel
theorem dL_restore_2 : decode cL_restore 2 = .ok (.aload_n 0, 1) := by decide +kernel
theorem dL_restore_3 : decode cL_restore 3 = .ok (.invokevirtual 125, 3) := by decide +kernel
theorem dL_restore_6 : decode cL_restore 6 = .ok (.i2l, 1) := by decide +kernel
theorem dL_restore_7 : decode cL_restore 7 = .ok (.lastore, 1) := by decide +kernel
theorem dL_restore_8 : decode cL_restore 8 = .ok (.goto 6, 3) := by decide +kernel
theorem dL_restore_11 : decode cL_restore 11 = .ok (.astore_n 2, 1) := by decide +kernel
theorem dL_restore_12 : decode cL_restore 12 = .ok (.iconst 1, 1) := by decide +kernel
theorem dL_restore_13 : decode cL_restore 13 = .ok (.ireturn, 1) := by decide +kernel
theorem dL_restore_14 : decode cL_restore 14 = .ok (.iconst 0, 1) := by decide +kernel
theorem dL_restore_15 : decode cL_restore 15 = .ok (.ireturn, 1) := by decide +kernel
set_option maxRecDepth 20000 in
theorem ggL_restore_X8_restore : GoodIn wsL_restore wsX8_restore := goodIn_ca (goodIn_r _ [6, 7, 8, 9, 10, 11, 12, 13, 5, 14, 15, 16, 17, 18, 19, 20, 21, 22, 23, 24, 25, 26, 27, 28, 29, 30, 31, 32, 33, 34, 35, 36, 37, 38, 39, 40, 41, 42, 43, 44, 45, 46, 47, 48, 49, 50, 51, 52, 53, 54, 55, 56, 57, 58, 59, 60, 61, 62, 63, 64, 65, 66, 67, 68, 69, 70, 71, 72, 73, 74, 75, 76, 77, 78, 79, 80, 81, 82, 83, 84, 85, 86, 87, 88, 89, 90, 91, 92, 93, 94, 95, 96, 97, 98, 99, 100, 101, 102, 103, 104, 105, 106, 107, 108, 109, 110, 111] (by decide +kernel) (by decide +kernel)) (goodIn_sub (fun _ h => List.mem_cons_of_mem _ (List.mem_append_right _ h)) (by decide +kernel))
set_option maxRecDepth 20000 in
theorem gL_restore_X8_restore : GoodIn wsL_restore (wsV RL 125 RX8 yX8_restore wsX8_restore) := goodIn_app (goodIn_of _ (by decide +kernel)) ggL_restore_X8_restore
def rm_L_restore_0_75 : Room := { frames := 10, cells := 1, slots := 6, locals := 283 }
set_option maxHeartbeats 4000000 in
set_option maxRecDepth 100000 in
theorem c_L_restore_0_75 (l : Launch) (hfl : l.stackTraces = false) {G : zG} {ad : Nat → Nat} {σ σ' : zs} {r : Int32} (hf : f_L_restore_0_75 σ  = some (r, σ')) : xMi l yL_restore wsL_restore rm_L_restore_0_75 G ad σ [.ref (ad 0), .ref (ad 75)] r σ' := by
  intro sz nb a g hs
  refine z_ofWH (cc := cL_restore) (maxL := 3) (ret := (some .int)) (by decide) rfl ?_
  intro p e s m args below meth c s₁ B hml hv
  obtain ⟨rfl, hsz, hv⟩ := hv
  have hx := B.exec
  have hb := B.bytes
  have hr := B.returns
  have hts := atoms_spec (ws := wsL_restore) B.pre
  have hown : s.vm.findClass RL = some m.cls := findClass_of_methodNamed B.named
  have hlocks := B.notSynchronized
  subst hsz
  have htab : c.exceptionTable.toList = [⟨0, 8, 11, 17⟩] := vx_table (x := yL_restore) B (hts (.codeWith yL_restore cL_restore 3 (some .int) [(0, 8, 11, 17)]) List.mem_cons_self)
  have B := xB_start hs hv
  have hl := lv_entry ([.ref (ad 0), .ref (ad 75)]) (n := 3) (Nat.le_of_ble_eq_true rfl)
  rw [lg_entry_eq]
  generalize (lg_sl ([.ref (ad 0), .ref (ad 75)]) ++ List.replicate (3 - (lg_sl ([.ref (ad 0), .ref (ad 75)])).length) Slot.unset).toArray = ls at hl ⊢
  have hl : lv_has ls 3 [(0, .ref (ad 0)), (1, .ref (ad 75))] := hl
  generalize hAe : xA ad a s.heap.size = A at B ⊢
  unfold f_L_restore_0_75 at hf
  refine lv_aload_n hx hb dL_restore_0 rfl (lv_at hl 1 rfl) ?_
  refine lv_iconst (v := (0 : Int32)) hx hb dL_restore_1 (by decide) ?_
  refine lv_aload_n hx hb dL_restore_2 rfl (lv_at hl 0 rfl) ?_
  obtain ⟨u1, r2, σ3, hu1, hf⟩ := zc_some hf
  refine x_xi B (fun nb a g hs Bz => vx_runV (As := []) (rest := [.int (0 : Int32), .ref (ad 75)]) ⟨hx, hb, hml, hown, hts⟩ (c_X8_restore l hfl hu1 _ nb a g hs) (cwV 0 hts gL_restore_X8_restore rfl rfl rfl (by decide +kernel) ⟨Nat.le_of_ble_eq_true rfl, Nat.le_of_ble_eq_true rfl⟩) (x_preV Bz (by decide) (fun _ => rfl) rfl) rfl rfl hl.1 rfl (lv_room (Nat.le_of_ble_eq_true rfl)) dL_restore_3 ⟨Nat.le_of_ble_eq_true rfl, Nat.le_of_ble_eq_true rfl⟩) (fun H locs ce q9 h0 B k1 k2 k3 => ?_) (fun H locs h0 B => ?_)
  · have hf := zx_no hf h0
    by_cases he3 : u1 = 3
    · have hf := zif_t he3 hf
      subst he3
      refine vx_catch (E := "java/lang/IllegalStateException") (name := "java/lang/IllegalStateException") hown [] ⟨0, 8, 11, 17⟩ [] htab (fun z hz => by cases hz) (by decide) (by decide) (hts (.classLink RL 17 "java/lang/IllegalStateException") (by decide +kernel)) (((xT B).castable (by decide +kernel)).use rfl) k1 k2 k3 ?_
      refine lv_astore_n (lv' := [(2, .ref q9), (0, .ref (ad 0)), (1, .ref (ad 75))]) hx hb dL_restore_11 rfl hl (by decide) rfl (fun ls hl => ?_)
      refine lv_iconst (v := (1 : Int32)) hx hb dL_restore_12 (by decide) ?_
      refine W.widen (k := 1) (n := 6) (Nat.le_of_ble_eq_true rfl) (Nat.le_of_ble_eq_true rfl) ?_
      exact x_iret hx hb hr rfl hlocks B hf dL_restore_13
    have hf := zif_f he3 hf
    cases hf
  have hf := zx_ok hf h0
  refine lv_i2l (v := r2.toInt64) hx hb dL_restore_6 rfl ?_
  obtain ⟨hg, hf⟩ := zg_some hf
  refine x_last hx hb B 75 rfl (by decide) (by decide) (fun _ => rfl) (zin_ok hg) dL_restore_7 (fun H locs B => ?_)
  refine lv_goto (tgt := 14) hx hb dL_restore_8 (by decide) ?_
  refine lv_iconst (v := (0 : Int32)) hx hb dL_restore_14 (by decide) ?_
  refine W.widen (k := 1) (n := 6) (Nat.le_of_ble_eq_true rfl) (Nat.le_of_ble_eq_true rfl) ?_
  exact x_iret hx hb hr rfl hlocks B hf dL_restore_15
