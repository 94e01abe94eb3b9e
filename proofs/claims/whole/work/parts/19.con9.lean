theorem dX9_argumentLeft_0 : decode cX9_argumentLeft 0 = .ok (.iconst 0, 1) := by decide +kernel
theorem dX9_argumentLeft_1 : decode cX9_argumentLeft 1 = .ok (.istore_n 3, 1) := by decide +kernel
theorem dX9_argumentLeft_2 : decode cX9_argumentLeft 2 = .ok (.sipush 999, 3) := by decide +kernel
theorem dX9_argumentLeft_5 : decode cX9_argumentLeft 5 = .ok (.istore 4, 2) := by decide +kernel
theorem dX9_argumentLeft_7 : decode cX9_argumentLeft 7 = .ok (.iload_n 1, 1) := by decide +kernel
theorem dX9_argumentLeft_8 : decode cX9_argumentLeft 8 = .ok (.istore 5, 2) := by decide +kernel
theorem dX9_argumentLeft_10 : decode cX9_argumentLeft 10 = .ok (.iload 5, 2) := by decide +kernel
theorem dX9_argumentLeft_12 : decode cX9_argumentLeft 12 = .ok (.ifCond .lt 86, 3) := by decide +kernel
theorem dX9_argumentLeft_15 : decode cX9_argumentLeft 15 = .ok (.iconst 0, 1) := by decide +kernel
theorem dX9_argumentLeft_16 : decode cX9_argumentLeft 16 = .ok (.istore 6, 2) := by decide +kernel
theorem dX9_argumentLeft_18 : decode cX9_argumentLeft 18 = .ok (.iload 6, 2) := by decide +kernel
theorem dX9_argumentLeft_20 : decode cX9_argumentLeft 20 = .ok (.aload_n 0, 1) := by decide +kernel
theorem dX9_argumentLeft_21 : decode cX9_argumentLeft 21 = .ok (.getfield 9, 3) := by decide +kernel
theorem dX9_argumentLeft_24 : decode cX9_argumentLeft 24 = .ok (.sipush 191, 3) := by decide +kernel
theorem dX9_argumentLeft_27 : decode cX9_argumentLeft 27 = .ok (.iload 5, 2) := by decide +kernel
theorem dX9_argumentLeft_29 : decode cX9_argumentLeft 29 = .ok (.iadd, 1) := by decide +kernel
theorem dX9_argumentLeft_30 : decode cX9_argumentLeft 30 = .ok (.iaload, 1) := by decide +kernel
theorem dX9_argumentLeft_31 : decode cX9_argumentLeft 31 = .ok (.if_icmp .ge 52, 3) := by decide +kernel
theorem dX9_argumentLeft_34 : decode cX9_argumentLeft 34 = .ok (.aload_n 0, 1) := by decide +kernel
theorem dX9_argumentLeft_35 : decode cX9_argumentLeft 35 = .ok (.iload 5, 2) := by decide +kernel
theorem dX9_argumentLeft_37 : decode cX9_argumentLeft 37 = .ok (.iload 6, 2) := by decide +kernel
theorem dX9_argumentLeft_39 : decode cX9_argumentLeft 39 = .ok (.iconst 0, 1) := by decide +kernel
theorem dX9_argumentLeft_40 : decode cX9_argumentLeft 40 = .ok (.invokevirtual 55, 3) := by decide +kernel
theorem dX9_argumentLeft_43 : decode cX9_argumentLeft 43 = .ok (.iconst 4, 1) := by decide +kernel
theorem dX9_argumentLeft_44 : decode cX9_argumentLeft 44 = .ok (.if_icmp .ne 33, 3) := by decide +kernel
theorem dX9_argumentLeft_47 : decode cX9_argumentLeft 47 = .ok (.iload_n 3, 1) := by decide +kernel
theorem dX9_argumentLeft_48 : decode cX9_argumentLeft 48 = .ok (.aload_n 0, 1) := by decide +kernel
theorem dX9_argumentLeft_49 : decode cX9_argumentLeft 49 = .ok (.iload 5, 2) := by decide +kernel
theorem dX9_argumentLeft_51 : decode cX9_argumentLeft 51 = .ok (.iload 6, 2) := by decide +kernel
theorem dX9_argumentLeft_53 : decode cX9_argumentLeft 53 = .ok (.iconst 1, 1) := by decide +kernel
theorem dX9_argumentLeft_54 : decode cX9_argumentLeft 54 = .ok (.invokevirtual 55, 3) := by decide +kernel
theorem dX9_argumentLeft_57 : decode cX9_argumentLeft 57 = .ok (.invokestatic 159, 3) := by decide +kernel
theorem dX9_argumentLeft_60 : decode cX9_argumentLeft 60 = .ok (.istore_n 3, 1) := by decide +kernel
theorem dX9_argumentLeft_61 : decode cX9_argumentLeft 61 = .ok (.iload 4, 2) := by decide +kernel
theorem dX9_argumentLeft_63 : decode cX9_argumentLeft 63 = .ok (.aload_n 0, 1) := by decide +kernel
theorem dX9_argumentLeft_64 : decode cX9_argumentLeft 64 = .ok (.iload 5, 2) := by decide +kernel
theorem dX9_argumentLeft_66 : decode cX9_argumentLeft 66 = .ok (.iload 6, 2) := by decide +kernel
theorem dX9_argumentLeft_68 : decode cX9_argumentLeft 68 = .ok (.iconst 2, 1) := by decide +kernel
theorem dX9_argumentLeft_69 : decode cX9_argumentLeft 69 = .ok (.invokevirtual 55, 3) := by decide +kernel
theorem dX9_argumentLeft_72 : decode cX9_argumentLeft 72 = .ok (.invokestatic 165, 3) := by decide +kernel
theorem dX9_argumentLeft_75 : decode cX9_argumentLeft 75 = .ok (.istore 4, 2) := by decide +kernel
theorem dX9_argumentLeft_77 : decode cX9_argumentLeft 77 = .ok (.iinc 6 1, 3) := by decide +kernel
theorem dX9_argumentLeft_80 : decode cX9_argumentLeft 80 = .ok (.goto (-62), 3) := by decide +kernel
theorem dX9_argumentLeft_83 : decode cX9_argumentLeft 83 = .ok (.aload_n 0, 1) := by decide +kernel
theorem dX9_argumentLeft_84 : decode cX9_argumentLeft 84 = .ok (.getfield 9, 3) := by decide +kernel
theorem dX9_argumentLeft_87 : decode cX9_argumentLeft 87 = .ok (.bipush 79, 2) := by decide +kernel
theorem dX9_argumentLeft_89 : decode cX9_argumentLeft 89 = .ok (.iload 5, 2) := by decide +kernel
theorem dX9_argumentLeft_91 : decode cX9_argumentLeft 91 = .ok (.iadd, 1) := by decide +kernel
theorem dX9_argumentLeft_92 : decode cX9_argumentLeft 92 = .ok (.iaload, 1) := by decide +kernel
theorem dX9_argumentLeft_93 : decode cX9_argumentLeft 93 = .ok (.istore 5, 2) := by decide +kernel
theorem dX9_argumentLeft_95 : decode cX9_argumentLeft 95 = .ok (.goto (-85), 3) := by decide +kernel
theorem dX9_argumentLeft_98 : decode cX9_argumentLeft 98 = .ok (.iload_n 3, 1) := by decide +kernel
theorem dX9_argumentLeft_99 : decode cX9_argumentLeft 99 = .ok (.iload 4, 2) := by decide +kernel
theorem dX9_argumentLeft_101 : decode cX9_argumentLeft 101 = .ok (.if_icmp .le 7, 3) := by decide +kernel
theorem dX9_argumentLeft_104 : decode cX9_argumentLeft 104 = .ok (.iconst (-1), 1) := by decide +kernel
theorem dX9_argumentLeft_105 : decode cX9_argumentLeft 105 = .ok (.goto 13, 3) := by decide +kernel
theorem dX9_argumentLeft_108 : decode cX9_argumentLeft 108 = .ok (.iload_n 2, 1) := by decide +kernel
theorem dX9_argumentLeft_109 : decode cX9_argumentLeft 109 = .ok (.ifCond .eq 7, 3) := by decide +kernel
theorem dX9_argumentLeft_112 : decode cX9_argumentLeft 112 = .ok (.iload_n 3, 1) := by decide +kernel
theorem dX9_argumentLeft_113 : decode cX9_argumentLeft 113 = .ok (.goto 5, 3) := by decide +kernel
theorem dX9_argumentLeft_116 : decode cX9_argumentLeft 116 = .ok (.iload 4, 2) := by decide +kernel
theorem dX9_argumentLeft_118 : decode cX9_argumentLeft 118 = .ok (.ireturn, 1) := by decide +kernel
set_option maxRecDepth 20000 in
theorem ggX9_argumentLeft_X9_part : GoodIn wsX9_argumentLeft wsX9_part := goodIn_ca (goodIn_r _ [13, 1, 14, 15, 16, 17, 18, 19, 20, 21, 22, 23, 24, 25, 26, 27, 28, 29, 30, 31, 32, 33] (by decide +kernel) (by decide +kernel)) (goodIn_sub (fun _ h => List.mem_cons_of_mem _ (List.mem_append_right _ h)) (by decide +kernel))
set_option maxRecDepth 20000 in
theorem gX9_argumentLeft_X9_part : GoodIn wsX9_argumentLeft (wsV RX9 55 RX9 yX9_part wsX9_part) := goodIn_app (goodIn_of _ (by decide +kernel)) ggX9_argumentLeft_X9_part
def rm_X9_argumentLeft : Room := { frames := 2, cells := 0, slots := 0, locals := 40 }
set_option maxHeartbeats 4000000 in
set_option maxRecDepth 100000 in
theorem c_X9_argumentLeft (l : Launch) {nb : Nat} {G : zG} {ad : Nat → Nat} {σ σ' : zs} {a1 a2 : Int32} {r : Int32} (hf : f_X9_argumentLeft σ a1 a2 = some (r, σ')) : zMi l yX9_argumentLeft wsX9_argumentLeft rm_X9_argumentLeft G (zS nb) ad σ [.ref (ad 65), .int a1, .int a2] r σ' := by
  intro sz
  refine Met.ofW (cc := cX9_argumentLeft) (maxL := 7) (ret := (some .int)) (by decide) rfl ?_
  intro p e s m args below meth c s₁ B hml hv
  obtain ⟨rfl, hsz, hv⟩ := hv
  have hx := B.exec
  have hb := B.bytes
  have hr := B.returns
  have hts := atoms_spec (ws := wsX9_argumentLeft) B.pre
  have hown : s.vm.findClass RX9 = some m.cls := findClass_of_methodNamed B.named
  have hlocks := B.notSynchronized
  subst hsz
  have B := zB_start hv
  have hinRX9 : ∀ w ∈ wsX90, w ∈ wsX9_argumentLeft := by decide +kernel
  have hl := lv_entry ([.ref (ad 65), .int a1, .int a2]) (n := 7) (Nat.le_of_ble_eq_true rfl)
  rw [lg_entry_eq]
  generalize (lg_sl ([.ref (ad 65), .int a1, .int a2]) ++ List.replicate (7 - (lg_sl ([.ref (ad 65), .int a1, .int a2])).length) Slot.unset).toArray = ls at hl ⊢
  have hl : lv_has ls 7 [(0, .ref (ad 65)), (1, .int a1), (2, .int a2)] := hl
  generalize hAe : zA ad (zS nb).length s.heap.size = A at B ⊢
  have L18 : ∀ (K10 : zs → Int32 → Int32 → Int32 → Int32 → Option (Int32 × zs)) (hK10 : ∀ (σ : zs) (v2 : Int32) (v3 : Int32) (v4 : Int32) (v5 : Int32) (H : Heap) (locs : List Loc) (ls : Array Slot), K10 σ v2 v3 v4 v5 = some (r, σ') → zB A s G (zS nb) ad σ H locs → lv_has ls 7 [(0, .ref (ad 65)), (2, .int v2), (3, .int v3), (4, .int v4), (5, .int v5)] → W p l e (headSpec wsX9_argumentLeft rm_X9_argumentLeft).room s m ([.ref (ad 65), .int a1, .int a2] : List Value).toArray below meth c H locs 0 0 (MQ below (va_Qi (fun r' (_ : Unit) => r' = r) (zPost G (zS nb) ad σ') A) ([.ref (ad 65), .int a1, .int a2] : List Value).toArray s 0 0 A) (F0 m 10 ls [])) (n : Nat) (σ : zs) (v2 : Int32) (v3 : Int32) (v4 : Int32) (v5 : Int32) (v6 : Int32) (H : Heap) (locs : List Loc) (ls : Array Slot), zlp5 (f_X9_argumentLeft_18 K10) n σ v2 v3 v4 v5 v6 = some (r, σ') → zB A s G (zS nb) ad σ H locs → lv_has ls 7 [(0, .ref (ad 65)), (2, .int v2), (3, .int v3), (4, .int v4), (5, .int v5), (6, .int v6)] → W p l e (headSpec wsX9_argumentLeft rm_X9_argumentLeft).room s m ([.ref (ad 65), .int a1, .int a2] : List Value).toArray below meth c H locs 0 0 (MQ below (va_Qi (fun r' (_ : Unit) => r' = r) (zPost G (zS nb) ad σ') A) ([.ref (ad 65), .int a1, .int a2] : List Value).toArray s 0 0 A) (F0 m 18 ls []) := by
    intro K10 hK10 n
    induction n with
    | zero =>
      intro σ v2 v3 v4 v5 v6 H locs ls hf
      cases hf
    | succ n ih =>
      intro σ v2 v3 v4 v5 v6 H locs ls hf B hl
      have hf : f_X9_argumentLeft_18 K10 (zlp5 (f_X9_argumentLeft_18 K10) n) σ v2 v3 v4 v5 v6 = some (r, σ') := hf
      unfold f_X9_argumentLeft_18 at hf
      refine lv_iload hx hb dX9_argumentLeft_18 (lv_at hl 5 rfl) ?_
      refine lv_aload_n hx hb dX9_argumentLeft_20 rfl (lv_at hl 0 rfl) ?_
      refine z_getr hx hb hts hinRX9 hown B 65 0 66 rfl rfl rfl (by decide) (by decide +kernel) rfl dX9_argumentLeft_21 ?_
      refine lv_sipush (v := (191 : Int32)) hx hb dX9_argumentLeft_24 (by decide) ?_
      refine lv_iload hx hb dX9_argumentLeft_27 (lv_at hl 4 rfl) ?_
      refine lv_iadd hx hb dX9_argumentLeft_29 ?_
      obtain ⟨hg, hf⟩ := zg_some hf
      refine z_iald hx hb B 66 rfl (zin_ok hg) dX9_argumentLeft_30 ?_
      refine lv_icmp_ge (tgt := 83) hx hb dX9_argumentLeft_31 (by decide) (fun hc => ?_) (fun hc => ?_)
      · have hf := zif_t hc hf
        refine lv_aload_n hx hb dX9_argumentLeft_83 rfl (lv_at hl 0 rfl) ?_
        refine z_getr hx hb hts hinRX9 hown B 65 0 66 rfl rfl rfl (by decide) (by decide +kernel) rfl dX9_argumentLeft_84 ?_
        refine lv_bipush (v := (79 : Int32)) hx hb dX9_argumentLeft_87 (by decide) ?_
        refine lv_iload hx hb dX9_argumentLeft_89 (lv_at hl 4 rfl) ?_
        refine lv_iadd hx hb dX9_argumentLeft_91 ?_
        obtain ⟨hg, hf⟩ := zg_some hf
        refine z_iald hx hb B 66 rfl (zin_ok hg) dX9_argumentLeft_92 ?_
        refine lv_istore (lv' := [(5, .int (σ 66 ((79 : Int32) + v5).toNatClampNeg)), (0, .ref (ad 65)), (2, .int v2), (3, .int v3), (4, .int v4), (6, .int v6)]) hx hb dX9_argumentLeft_93 hl (by decide) rfl (fun ls hl => ?_)
        refine lv_goto (tgt := 10) hx hb dX9_argumentLeft_95 (by decide) ?_
        exact hK10 _ _ _ _ _ _ _ _ hf B (lv_sub hl [1, 2, 3, 4, 0] rfl)
      · have hf := zif_f hc hf
        refine lv_aload_n hx hb dX9_argumentLeft_34 rfl (lv_at hl 0 rfl) ?_
        refine lv_iload hx hb dX9_argumentLeft_35 (lv_at hl 4 rfl) ?_
        refine lv_iload hx hb dX9_argumentLeft_37 (lv_at hl 5 rfl) ?_
        refine lv_iconst (v := (0 : Int32)) hx hb dX9_argumentLeft_39 (by decide) ?_
        obtain ⟨r2, σ3, hu1, hf⟩ := zb_some hf
        refine z_i B (va_runV (As := [.int v5, .int v6, .int (0 : Int32)]) (rest := []) ⟨hx, hb, hml, hown, hts⟩ (c_X9_part l hu1 _) (cwV 3 hts gX9_argumentLeft_X9_part rfl rfl rfl (by decide +kernel) ⟨Nat.le_of_ble_eq_true rfl, Nat.le_of_ble_eq_true rfl⟩) (z_preV B rfl rfl) rfl rfl hl.1 rfl (lv_room (Nat.le_of_ble_eq_true rfl)) dX9_argumentLeft_40 ⟨Nat.le_of_ble_eq_true rfl, Nat.le_of_ble_eq_true rfl⟩) (fun H locs B => ?_)
        refine lv_iconst (v := (4 : Int32)) hx hb dX9_argumentLeft_43 (by decide) ?_
        refine lv_icmp_ne (tgt := 77) hx hb dX9_argumentLeft_44 (by decide) (fun hc => ?_) (fun hc => ?_)
        · have hf := zif_f hc hf
          refine lv_iinc (v := (v6 + (1 : Int32))) (lv' := [(6, .int (v6 + (1 : Int32))), (0, .ref (ad 65)), (2, .int v2), (3, .int v3), (4, .int v4), (5, .int v5)]) hx hb dX9_argumentLeft_77 hl (k := 5) rfl (zc1 (by decide)) (by decide) rfl (fun ls hl => ?_)
          refine lv_goto (tgt := 18) hx hb dX9_argumentLeft_80 (by decide) ?_
          exact ih _ _ _ _ _ _ _ _ _ hf B (lv_sub hl [1, 2, 3, 4, 5, 0] rfl)
        · have hf := zif_t hc hf
          refine lv_iload_n hx hb dX9_argumentLeft_47 rfl (lv_at hl 2 rfl) ?_
          refine lv_aload_n hx hb dX9_argumentLeft_48 rfl (lv_at hl 0 rfl) ?_
          refine lv_iload hx hb dX9_argumentLeft_49 (lv_at hl 4 rfl) ?_
          refine lv_iload hx hb dX9_argumentLeft_51 (lv_at hl 5 rfl) ?_
          refine lv_iconst (v := (1 : Int32)) hx hb dX9_argumentLeft_53 (by decide) ?_
          obtain ⟨r5, σ6, hu4, hf⟩ := zb_some hf
          refine z_i B (va_runV (As := [.int v5, .int v6, .int (1 : Int32)]) (rest := [.int v3]) ⟨hx, hb, hml, hown, hts⟩ (c_X9_part l hu4 _) (cwV 3 hts gX9_argumentLeft_X9_part rfl rfl rfl (by decide +kernel) ⟨Nat.le_of_ble_eq_true rfl, Nat.le_of_ble_eq_true rfl⟩) (z_preV B rfl rfl) rfl rfl hl.1 rfl (lv_room (Nat.le_of_ble_eq_true rfl)) dX9_argumentLeft_54 ⟨Nat.le_of_ble_eq_true rfl, Nat.le_of_ble_eq_true rfl⟩) (fun H locs B => ?_)
          refine va_mmax hx hb (hml.trans hl.1.symm) hown (index := 159) (hts _ (by decide +kernel)) (hts _ (by decide +kernel)) (hts _ (by decide +kernel)) (hts _ (by decide +kernel)) (Nat.le_of_ble_eq_true rfl) (Nat.le_of_ble_eq_true rfl) (Nat.le_of_ble_eq_true rfl) (Nat.le_of_ble_eq_true rfl) dX9_argumentLeft_57 ?_
          refine lv_istore_n (lv' := [(3, .int (if v3 < r5 then r5 else v3)), (0, .ref (ad 65)), (2, .int v2), (4, .int v4), (5, .int v5), (6, .int v6)]) hx hb dX9_argumentLeft_60 rfl hl (by decide) rfl (fun ls hl => ?_)
          refine lv_iload hx hb dX9_argumentLeft_61 (lv_at hl 3 rfl) ?_
          refine lv_aload_n hx hb dX9_argumentLeft_63 rfl (lv_at hl 1 rfl) ?_
          refine lv_iload hx hb dX9_argumentLeft_64 (lv_at hl 4 rfl) ?_
          refine lv_iload hx hb dX9_argumentLeft_66 (lv_at hl 5 rfl) ?_
          refine lv_iconst (v := (2 : Int32)) hx hb dX9_argumentLeft_68 (by decide) ?_
          obtain ⟨r8, σ9, hu7, hf⟩ := zb_some hf
          refine z_i B (va_runV (As := [.int v5, .int v6, .int (2 : Int32)]) (rest := [.int v4]) ⟨hx, hb, hml, hown, hts⟩ (c_X9_part l hu7 _) (cwV 3 hts gX9_argumentLeft_X9_part rfl rfl rfl (by decide +kernel) ⟨Nat.le_of_ble_eq_true rfl, Nat.le_of_ble_eq_true rfl⟩) (z_preV B rfl rfl) rfl rfl hl.1 rfl (lv_room (Nat.le_of_ble_eq_true rfl)) dX9_argumentLeft_69 ⟨Nat.le_of_ble_eq_true rfl, Nat.le_of_ble_eq_true rfl⟩) (fun H locs B => ?_)
          refine va_mmin hx hb (hml.trans hl.1.symm) hown (index := 165) (hts _ (by decide +kernel)) (hts _ (by decide +kernel)) (hts _ (by decide +kernel)) (hts _ (by decide +kernel)) (Nat.le_of_ble_eq_true rfl) (Nat.le_of_ble_eq_true rfl) (Nat.le_of_ble_eq_true rfl) (Nat.le_of_ble_eq_true rfl) dX9_argumentLeft_72 ?_
          refine lv_istore (lv' := [(4, .int (if r8 < v4 then r8 else v4)), (3, .int (if v3 < r5 then r5 else v3)), (0, .ref (ad 65)), (2, .int v2), (5, .int v5), (6, .int v6)]) hx hb dX9_argumentLeft_75 hl (by decide) rfl (fun ls hl => ?_)
          refine lv_iinc (v := (v6 + (1 : Int32))) (lv' := [(6, .int (v6 + (1 : Int32))), (4, .int (if r8 < v4 then r8 else v4)), (3, .int (if v3 < r5 then r5 else v3)), (0, .ref (ad 65)), (2, .int v2), (5, .int v5)]) hx hb dX9_argumentLeft_77 hl (k := 5) rfl (zc1 (by decide)) (by decide) rfl (fun ls hl => ?_)
          refine lv_goto (tgt := 18) hx hb dX9_argumentLeft_80 (by decide) ?_
          exact ih _ _ _ _ _ _ _ _ _ hf B (lv_sub hl [3, 4, 2, 1, 5, 0] rfl)
  have L10 : ∀ (n : Nat) (σ : zs) (v2 : Int32) (v3 : Int32) (v4 : Int32) (v5 : Int32) (H : Heap) (locs : List Loc) (ls : Array Slot), zlp4 (f_X9_argumentLeft_10) n σ v2 v3 v4 v5 = some (r, σ') → zB A s G (zS nb) ad σ H locs → lv_has ls 7 [(0, .ref (ad 65)), (2, .int v2), (3, .int v3), (4, .int v4), (5, .int v5)] → W p l e (headSpec wsX9_argumentLeft rm_X9_argumentLeft).room s m ([.ref (ad 65), .int a1, .int a2] : List Value).toArray below meth c H locs 0 0 (MQ below (va_Qi (fun r' (_ : Unit) => r' = r) (zPost G (zS nb) ad σ') A) ([.ref (ad 65), .int a1, .int a2] : List Value).toArray s 0 0 A) (F0 m 10 ls []) := by
    intro n
    induction n with
    | zero =>
      intro σ v2 v3 v4 v5 H locs ls hf
      cases hf
    | succ n ih =>
      intro σ v2 v3 v4 v5 H locs ls hf B hl
      have hf : f_X9_argumentLeft_10 (zlp4 (f_X9_argumentLeft_10) n) σ v2 v3 v4 v5 = some (r, σ') := hf
      unfold f_X9_argumentLeft_10 at hf
      refine lv_iload hx hb dX9_argumentLeft_10 (lv_at hl 4 rfl) ?_
      refine lv_if_lt (tgt := 98) hx hb dX9_argumentLeft_12 (by decide) (fun hc => ?_) (fun hc => ?_)
      · have hf := zif_t hc hf
        refine lv_iload_n hx hb dX9_argumentLeft_98 rfl (lv_at hl 2 rfl) ?_
        refine lv_iload hx hb dX9_argumentLeft_99 (lv_at hl 3 rfl) ?_
        refine lv_icmp_le (tgt := 108) hx hb dX9_argumentLeft_101 (by decide) (fun hc => ?_) (fun hc => ?_)
        · have hf := zif_t hc hf
          refine lv_iload_n hx hb dX9_argumentLeft_108 rfl (lv_at hl 1 rfl) ?_
          refine lv_if_eq (tgt := 116) hx hb dX9_argumentLeft_109 (by decide) (fun hc => ?_) (fun hc => ?_)
          · have hf := zif_t hc hf
            refine lv_iload hx hb dX9_argumentLeft_116 (lv_at hl 3 rfl) ?_
            refine W.widen (k := 0) (n := 0) (Nat.le_of_ble_eq_true rfl) (Nat.le_of_ble_eq_true rfl) ?_
            exact z_iret hx hb hr rfl hlocks B hf dX9_argumentLeft_118
          · have hf := zif_f hc hf
            refine lv_iload_n hx hb dX9_argumentLeft_112 rfl (lv_at hl 2 rfl) ?_
            refine lv_goto (tgt := 118) hx hb dX9_argumentLeft_113 (by decide) ?_
            refine W.widen (k := 0) (n := 0) (Nat.le_of_ble_eq_true rfl) (Nat.le_of_ble_eq_true rfl) ?_
            exact z_iret hx hb hr rfl hlocks B hf dX9_argumentLeft_118
        · have hf := zif_f hc hf
          refine lv_iconst (v := (-1 : Int32)) hx hb dX9_argumentLeft_104 (by decide) ?_
          refine lv_goto (tgt := 118) hx hb dX9_argumentLeft_105 (by decide) ?_
          refine W.widen (k := 0) (n := 0) (Nat.le_of_ble_eq_true rfl) (Nat.le_of_ble_eq_true rfl) ?_
          exact z_iret hx hb hr rfl hlocks B hf dX9_argumentLeft_118
      · have hf := zif_f hc hf
        refine lv_iconst (v := (0 : Int32)) hx hb dX9_argumentLeft_15 (by decide) ?_
        refine lv_istore (lv' := [(6, .int (0 : Int32)), (0, .ref (ad 65)), (2, .int v2), (3, .int v3), (4, .int v4), (5, .int v5)]) hx hb dX9_argumentLeft_16 hl (by decide) rfl (fun ls hl => ?_)
        exact L18 _ ih  _ _ _ _ _ _ _ _ _ _ hf B (lv_sub hl [1, 2, 3, 4, 5, 0] rfl)
  unfold f_X9_argumentLeft at hf
  refine lv_iconst (v := (0 : Int32)) hx hb dX9_argumentLeft_0 (by decide) ?_
  refine lv_istore_n (lv' := [(3, .int (0 : Int32)), (0, .ref (ad 65)), (1, .int a1), (2, .int a2)]) hx hb dX9_argumentLeft_1 rfl hl (by decide) rfl (fun ls hl => ?_)
  refine lv_sipush (v := (999 : Int32)) hx hb dX9_argumentLeft_2 (by decide) ?_
  refine lv_istore (lv' := [(4, .int (999 : Int32)), (3, .int (0 : Int32)), (0, .ref (ad 65)), (1, .int a1), (2, .int a2)]) hx hb dX9_argumentLeft_5 hl (by decide) rfl (fun ls hl => ?_)
  refine lv_iload_n hx hb dX9_argumentLeft_7 rfl (lv_at hl 3 rfl) ?_
  refine lv_istore (lv' := [(5, .int a1), (4, .int (999 : Int32)), (3, .int (0 : Int32)), (0, .ref (ad 65)), (1, .int a1), (2, .int a2)]) hx hb dX9_argumentLeft_8 hl (by decide) rfl (fun ls hl => ?_)
  exact L10  _ _ _ _ _ _ _ _ _ hf B (lv_sub hl [3, 5, 2, 1, 0] rfl)
theorem dX9_endOf_0 : decode cX9_endOf 0 = .ok (.ldc 176, 2) := by decide +kernel
theorem dX9_endOf_2 : decode cX9_endOf 2 = .ok (.istore_n 2, 1) := by decide +kernel
theorem dX9_endOf_3 : decode cX9_endOf 3 = .ok (.iload_n 1, 1) := by decide +kernel
theorem dX9_endOf_4 : decode cX9_endOf 4 = .ok (.istore_n 3, 1) := by decide +kernel
theorem dX9_endOf_5 : decode cX9_endOf 5 = .ok (.iload_n 3, 1) := by decide +kernel
theorem dX9_endOf_6 : decode cX9_endOf 6 = .ok (.ifCond .lt 69, 3) := by decide +kernel
theorem dX9_endOf_9 : decode cX9_endOf 9 = .ok (.iconst 0, 1) := by decide +kernel
theorem dX9_endOf_10 : decode cX9_endOf 10 = .ok (.istore 4, 2) := by decide +kernel
theorem dX9_endOf_12 : decode cX9_endOf 12 = .ok (.iload 4, 2) := by decide +kernel
theorem dX9_endOf_14 : decode cX9_endOf 14 = .ok (.aload_n 0, 1) := by decide +kernel
theorem dX9_endOf_15 : decode cX9_endOf 15 = .ok (.getfield 9, 3) := by decide +kernel
theorem dX9_endOf_18 : decode cX9_endOf 18 = .ok (.sipush 191, 3) := by decide +kernel
theorem dX9_endOf_21 : decode cX9_endOf 21 = .ok (.iload_n 3, 1) := by decide +kernel
theorem dX9_endOf_22 : decode cX9_endOf 22 = .ok (.iadd, 1) := by decide +kernel
theorem dX9_endOf_23 : decode cX9_endOf 23 = .ok (.iaload, 1) := by decide +kernel
theorem dX9_endOf_24 : decode cX9_endOf 24 = .ok (.if_icmp .ge 38, 3) := by decide +kernel
theorem dX9_endOf_27 : decode cX9_endOf 27 = .ok (.aload_n 0, 1) := by decide +kernel
theorem dX9_endOf_28 : decode cX9_endOf 28 = .ok (.iload_n 3, 1) := by decide +kernel
theorem dX9_endOf_29 : decode cX9_endOf 29 = .ok (.iload 4, 2) := by decide +kernel
theorem dX9_endOf_31 : decode cX9_endOf 31 = .ok (.iconst 0, 1) := by decide +kernel
theorem dX9_endOf_32 : decode cX9_endOf 32 = .ok (.invokevirtual 55, 3) := by decide +kernel
theorem dX9_endOf_35 : decode cX9_endOf 35 = .ok (.iconst 1, 1) := by decide +kernel
theorem dX9_endOf_36 : decode cX9_endOf 36 = .ok (.if_icmp .ne 18, 3) := by decide +kernel
theorem dX9_endOf_39 : decode cX9_endOf 39 = .ok (.iload_n 2, 1) := by decide +kernel
theorem dX9_endOf_40 : decode cX9_endOf 40 = .ok (.aload_n 0, 1) := by decide +kernel
theorem dX9_endOf_41 : decode cX9_endOf 41 = .ok (.iload_n 3, 1) := by decide +kernel
theorem dX9_endOf_42 : decode cX9_endOf 42 = .ok (.iload 4, 2) := by decide +kernel
theorem dX9_endOf_44 : decode cX9_endOf 44 = .ok (.iconst 1, 1) := by decide +kernel
theorem dX9_endOf_45 : decode cX9_endOf 45 = .ok (.invokevirtual 55, 3) := by decide +kernel
theorem dX9_endOf_48 : decode cX9_endOf 48 = .ok (.invokestatic 165, 3) := by decide +kernel
theorem dX9_endOf_51 : decode cX9_endOf 51 = .ok (.goto 4, 3) := by decide +kernel
theorem dX9_endOf_54 : decode cX9_endOf 54 = .ok (.iload_n 2, 1) := by decide +kernel
theorem dX9_endOf_55 : decode cX9_endOf 55 = .ok (.istore_n 2, 1) := by decide +kernel
theorem dX9_endOf_56 : decode cX9_endOf 56 = .ok (.iinc 4 1, 3) := by decide +kernel
theorem dX9_endOf_59 : decode cX9_endOf 59 = .ok (.goto (-47), 3) := by decide +kernel
theorem dX9_endOf_62 : decode cX9_endOf 62 = .ok (.aload_n 0, 1) := by decide +kernel
theorem dX9_endOf_63 : decode cX9_endOf 63 = .ok (.getfield 9, 3) := by decide +kernel
theorem dX9_endOf_66 : decode cX9_endOf 66 = .ok (.bipush 79, 2) := by decide +kernel
theorem dX9_endOf_68 : decode cX9_endOf 68 = .ok (.iload_n 3, 1) := by decide +kernel
theorem dX9_endOf_69 : decode cX9_endOf 69 = .ok (.iadd, 1) := by decide +kernel
theorem dX9_endOf_70 : decode cX9_endOf 70 = .ok (.iaload, 1) := by decide +kernel
theorem dX9_endOf_71 : decode cX9_endOf 71 = .ok (.istore_n 3, 1) := by decide +kernel
theorem dX9_endOf_72 : decode cX9_endOf 72 = .ok (.goto (-67), 3) := by decide +kernel
theorem dX9_endOf_75 : decode cX9_endOf 75 = .ok (.iload_n 2, 1) := by decide +kernel
theorem dX9_endOf_76 : decode cX9_endOf 76 = .ok (.ireturn, 1) := by decide +kernel
set_option maxRecDepth 20000 in
theorem ggX9_endOf_X9_part : GoodIn wsX9_endOf wsX9_part := goodIn_ca (goodIn_r _ [11, 2, 12, 13, 14, 15, 16, 17, 18, 19, 20, 21, 22, 23, 24, 25, 26, 27, 28, 29, 30, 31] (by decide +kernel) (by decide +kernel)) (goodIn_sub (fun _ h => List.mem_cons_of_mem _ (List.mem_append_right _ h)) (by decide +kernel))
set_option maxRecDepth 20000 in
theorem gX9_endOf_X9_part : GoodIn wsX9_endOf (wsV RX9 55 RX9 yX9_part wsX9_part) := goodIn_app (goodIn_of _ (by decide +kernel)) ggX9_endOf_X9_part
def rm_X9_endOf : Room := { frames := 2, cells := 0, slots := 0, locals := 40 }
set_option maxHeartbeats 4000000 in
set_option maxRecDepth 100000 in
theorem c_X9_endOf (l : Launch) {nb : Nat} {G : zG} {ad : Nat → Nat} {σ σ' : zs} {a1 : Int32} {r : Int32} (hf : f_X9_endOf σ a1 = some (r, σ')) : zMi l yX9_endOf wsX9_endOf rm_X9_endOf G (zS nb) ad σ [.ref (ad 65), .int a1] r σ' := by
  intro sz
  refine Met.ofW (cc := cX9_endOf) (maxL := 5) (ret := (some .int)) (by decide) rfl ?_
  intro p e s m args below meth c s₁ B hml hv
  obtain ⟨rfl, hsz, hv⟩ := hv
  have hx := B.exec
  have hb := B.bytes
  have hr := B.returns
  have hts := atoms_spec (ws := wsX9_endOf) B.pre
  have hown : s.vm.findClass RX9 = some m.cls := findClass_of_methodNamed B.named
  have hlocks := B.notSynchronized
  subst hsz
  have B := zB_start hv
  have hinRX9 : ∀ w ∈ wsX90, w ∈ wsX9_endOf := by decide +kernel
  have hl := lv_entry ([.ref (ad 65), .int a1]) (n := 5) (Nat.le_of_ble_eq_true rfl)
  rw [lg_entry_eq]
  generalize (lg_sl ([.ref (ad 65), .int a1]) ++ List.replicate (5 - (lg_sl ([.ref (ad 65), .int a1])).length) Slot.unset).toArray = ls at hl ⊢
  have hl : lv_has ls 5 [(0, .ref (ad 65)), (1, .int a1)] := hl
  generalize hAe : zA ad (zS nb).length s.heap.size = A at B ⊢
  have L12 : ∀ (K5 : zs → Int32 → Int32 → Option (Int32 × zs)) (hK5 : ∀ (σ : zs) (v2 : Int32) (v3 : Int32) (H : Heap) (locs : List Loc) (ls : Array Slot), K5 σ v2 v3 = some (r, σ') → zB A s G (zS nb) ad σ H locs → lv_has ls 5 [(0, .ref (ad 65)), (2, .int v2), (3, .int v3)] → W p l e (headSpec wsX9_endOf rm_X9_endOf).room s m ([.ref (ad 65), .int a1] : List Value).toArray below meth c H locs 0 0 (MQ below (va_Qi (fun r' (_ : Unit) => r' = r) (zPost G (zS nb) ad σ') A) ([.ref (ad 65), .int a1] : List Value).toArray s 0 0 A) (F0 m 5 ls [])) (n : Nat) (σ : zs) (v2 : Int32) (v3 : Int32) (v4 : Int32) (H : Heap) (locs : List Loc) (ls : Array Slot), zlp3 (f_X9_endOf_12 K5) n σ v2 v3 v4 = some (r, σ') → zB A s G (zS nb) ad σ H locs → lv_has ls 5 [(0, .ref (ad 65)), (2, .int v2), (3, .int v3), (4, .int v4)] → W p l e (headSpec wsX9_endOf rm_X9_endOf).room s m ([.ref (ad 65), .int a1] : List Value).toArray below meth c H locs 0 0 (MQ below (va_Qi (fun r' (_ : Unit) => r' = r) (zPost G (zS nb) ad σ') A) ([.ref (ad 65), .int a1] : List Value).toArray s 0 0 A) (F0 m 12 ls []) := by
    intro K5 hK5 n
    induction n with
    | zero =>
      intro σ v2 v3 v4 H locs ls hf
      cases hf
    | succ n ih =>
      intro σ v2 v3 v4 H locs ls hf B hl
      have hf : f_X9_endOf_12 K5 (zlp3 (f_X9_endOf_12 K5) n) σ v2 v3 v4 = some (r, σ') := hf
      unfold f_X9_endOf_12 at hf
      refine lv_iload hx hb dX9_endOf_12 (lv_at hl 3 rfl) ?_
      refine lv_aload_n hx hb dX9_endOf_14 rfl (lv_at hl 0 rfl) ?_
      refine z_getr hx hb hts hinRX9 hown B 65 0 66 rfl rfl rfl (by decide) (by decide +kernel) rfl dX9_endOf_15 ?_
      refine lv_sipush (v := (191 : Int32)) hx hb dX9_endOf_18 (by decide) ?_
      refine lv_iload_n hx hb dX9_endOf_21 rfl (lv_at hl 2 rfl) ?_
      refine lv_iadd hx hb dX9_endOf_22 ?_
      obtain ⟨hg, hf⟩ := zg_some hf
      refine z_iald hx hb B 66 rfl (zin_ok hg) dX9_endOf_23 ?_
      refine lv_icmp_ge (tgt := 62) hx hb dX9_endOf_24 (by decide) (fun hc => ?_) (fun hc => ?_)
      · have hf := zif_t hc hf
        refine lv_aload_n hx hb dX9_endOf_62 rfl (lv_at hl 0 rfl) ?_
        refine z_getr hx hb hts hinRX9 hown B 65 0 66 rfl rfl rfl (by decide) (by decide +kernel) rfl dX9_endOf_63 ?_
        refine lv_bipush (v := (79 : Int32)) hx hb dX9_endOf_66 (by decide) ?_
        refine lv_iload_n hx hb dX9_endOf_68 rfl (lv_at hl 2 rfl) ?_
        refine lv_iadd hx hb dX9_endOf_69 ?_
        obtain ⟨hg, hf⟩ := zg_some hf
        refine z_iald hx hb B 66 rfl (zin_ok hg) dX9_endOf_70 ?_
        refine lv_istore_n (lv' := [(3, .int (σ 66 ((79 : Int32) + v3).toNatClampNeg)), (0, .ref (ad 65)), (2, .int v2), (4, .int v4)]) hx hb dX9_endOf_71 rfl hl (by decide) rfl (fun ls hl => ?_)
        refine lv_goto (tgt := 5) hx hb dX9_endOf_72 (by decide) ?_
        exact hK5 _ _ _ _ _ _ hf B (lv_sub hl [1, 2, 0] rfl)
      · have hf := zif_f hc hf
        refine lv_aload_n hx hb dX9_endOf_27 rfl (lv_at hl 0 rfl) ?_
        refine lv_iload_n hx hb dX9_endOf_28 rfl (lv_at hl 2 rfl) ?_
        refine lv_iload hx hb dX9_endOf_29 (lv_at hl 3 rfl) ?_
        refine lv_iconst (v := (0 : Int32)) hx hb dX9_endOf_31 (by decide) ?_
        obtain ⟨r2, σ3, hu1, hf⟩ := zb_some hf
        refine z_i B (va_runV (As := [.int v3, .int v4, .int (0 : Int32)]) (rest := []) ⟨hx, hb, hml, hown, hts⟩ (c_X9_part l hu1 _) (cwV 3 hts gX9_endOf_X9_part rfl rfl rfl (by decide +kernel) ⟨Nat.le_of_ble_eq_true rfl, Nat.le_of_ble_eq_true rfl⟩) (z_preV B rfl rfl) rfl rfl hl.1 rfl (lv_room (Nat.le_of_ble_eq_true rfl)) dX9_endOf_32 ⟨Nat.le_of_ble_eq_true rfl, Nat.le_of_ble_eq_true rfl⟩) (fun H locs B => ?_)
        refine lv_iconst (v := (1 : Int32)) hx hb dX9_endOf_35 (by decide) ?_
        refine lv_icmp_ne (tgt := 54) hx hb dX9_endOf_36 (by decide) (fun hc => ?_) (fun hc => ?_)
        · have hf := zif_f hc hf
          refine lv_iload_n hx hb dX9_endOf_54 rfl (lv_at hl 1 rfl) ?_
          refine lv_istore_n (lv' := [(2, .int v2), (0, .ref (ad 65)), (3, .int v3), (4, .int v4)]) hx hb dX9_endOf_55 rfl hl (by decide) rfl (fun ls hl => ?_)
          refine lv_iinc (v := (v4 + (1 : Int32))) (lv' := [(4, .int (v4 + (1 : Int32))), (2, .int v2), (0, .ref (ad 65)), (3, .int v3)]) hx hb dX9_endOf_56 hl (k := 3) rfl (zc1 (by decide)) (by decide) rfl (fun ls hl => ?_)
          refine lv_goto (tgt := 12) hx hb dX9_endOf_59 (by decide) ?_
          exact ih _ _ _ _ _ _ _ hf B (lv_sub hl [2, 1, 3, 0] rfl)
        · have hf := zif_t hc hf
          refine lv_iload_n hx hb dX9_endOf_39 rfl (lv_at hl 1 rfl) ?_
          refine lv_aload_n hx hb dX9_endOf_40 rfl (lv_at hl 0 rfl) ?_
          refine lv_iload_n hx hb dX9_endOf_41 rfl (lv_at hl 2 rfl) ?_
          refine lv_iload hx hb dX9_endOf_42 (lv_at hl 3 rfl) ?_
          refine lv_iconst (v := (1 : Int32)) hx hb dX9_endOf_44 (by decide) ?_
          obtain ⟨r5, σ6, hu4, hf⟩ := zb_some hf
          refine z_i B (va_runV (As := [.int v3, .int v4, .int (1 : Int32)]) (rest := [.int v2]) ⟨hx, hb, hml, hown, hts⟩ (c_X9_part l hu4 _) (cwV 3 hts gX9_endOf_X9_part rfl rfl rfl (by decide +kernel) ⟨Nat.le_of_ble_eq_true rfl, Nat.le_of_ble_eq_true rfl⟩) (z_preV B rfl rfl) rfl rfl hl.1 rfl (lv_room (Nat.le_of_ble_eq_true rfl)) dX9_endOf_45 ⟨Nat.le_of_ble_eq_true rfl, Nat.le_of_ble_eq_true rfl⟩) (fun H locs B => ?_)
          refine va_mmin hx hb (hml.trans hl.1.symm) hown (index := 165) (hts _ (by decide +kernel)) (hts _ (by decide +kernel)) (hts _ (by decide +kernel)) (hts _ (by decide +kernel)) (Nat.le_of_ble_eq_true rfl) (Nat.le_of_ble_eq_true rfl) (Nat.le_of_ble_eq_true rfl) (Nat.le_of_ble_eq_true rfl) dX9_endOf_48 ?_
          refine lv_goto (tgt := 55) hx hb dX9_endOf_51 (by decide) ?_
          refine lv_istore_n (lv' := [(2, .int (if r5 < v2 then r5 else v2)), (0, .ref (ad 65)), (3, .int v3), (4, .int v4)]) hx hb dX9_endOf_55 rfl hl (by decide) rfl (fun ls hl => ?_)
          refine lv_iinc (v := (v4 + (1 : Int32))) (lv' := [(4, .int (v4 + (1 : Int32))), (2, .int (if r5 < v2 then r5 else v2)), (0, .ref (ad 65)), (3, .int v3)]) hx hb dX9_endOf_56 hl (k := 3) rfl (zc1 (by decide)) (by decide) rfl (fun ls hl => ?_)
          refine lv_goto (tgt := 12) hx hb dX9_endOf_59 (by decide) ?_
          exact ih _ _ _ _ _ _ _ hf B (lv_sub hl [2, 1, 3, 0] rfl)
  have L5 : ∀ (n : Nat) (σ : zs) (v2 : Int32) (v3 : Int32) (H : Heap) (locs : List Loc) (ls : Array Slot), zlp2 (f_X9_endOf_5) n σ v2 v3 = some (r, σ') → zB A s G (zS nb) ad σ H locs → lv_has ls 5 [(0, .ref (ad 65)), (2, .int v2), (3, .int v3)] → W p l e (headSpec wsX9_endOf rm_X9_endOf).room s m ([.ref (ad 65), .int a1] : List Value).toArray below meth c H locs 0 0 (MQ below (va_Qi (fun r' (_ : Unit) => r' = r) (zPost G (zS nb) ad σ') A) ([.ref (ad 65), .int a1] : List Value).toArray s 0 0 A) (F0 m 5 ls []) := by
    intro n
    induction n with
    | zero =>
      intro σ v2 v3 H locs ls hf
      cases hf
    | succ n ih =>
      intro σ v2 v3 H locs ls hf B hl
      have hf : f_X9_endOf_5 (zlp2 (f_X9_endOf_5) n) σ v2 v3 = some (r, σ') := hf
      unfold f_X9_endOf_5 at hf
      refine lv_iload_n hx hb dX9_endOf_5 rfl (lv_at hl 2 rfl) ?_
      refine lv_if_lt (tgt := 75) hx hb dX9_endOf_6 (by decide) (fun hc => ?_) (fun hc => ?_)
      · have hf := zif_t hc hf
        refine lv_iload_n hx hb dX9_endOf_75 rfl (lv_at hl 1 rfl) ?_
        refine W.widen (k := 0) (n := 0) (Nat.le_of_ble_eq_true rfl) (Nat.le_of_ble_eq_true rfl) ?_
        exact z_iret hx hb hr rfl hlocks B hf dX9_endOf_76
      · have hf := zif_f hc hf
        refine lv_iconst (v := (0 : Int32)) hx hb dX9_endOf_9 (by decide) ?_
        refine lv_istore (lv' := [(4, .int (0 : Int32)), (0, .ref (ad 65)), (2, .int v2), (3, .int v3)]) hx hb dX9_endOf_10 hl (by decide) rfl (fun ls hl => ?_)
        exact L12 _ ih  _ _ _ _ _ _ _ _ hf B (lv_sub hl [1, 2, 3, 0] rfl)
  unfold f_X9_endOf at hf
  refine lv_ldc (v := (2147483647 : Int32)) hx hb hown (hts (.constant RX9 176 (2147483647)) (by decide +kernel)) dX9_endOf_0 ?_
  refine lv_istore_n (lv' := [(2, .int (2147483647 : Int32)), (0, .ref (ad 65)), (1, .int a1)]) hx hb dX9_endOf_2 rfl hl (by decide) rfl (fun ls hl => ?_)
  refine lv_iload_n hx hb dX9_endOf_3 rfl (lv_at hl 2 rfl) ?_
  refine lv_istore_n (lv' := [(3, .int a1), (2, .int (2147483647 : Int32)), (0, .ref (ad 65)), (1, .int a1)]) hx hb dX9_endOf_4 rfl hl (by decide) rfl (fun ls hl => ?_)
  exact L5  _ _ _ _ _ _ _ hf B (lv_sub hl [2, 1, 0] rfl)
theorem dX9_left_0 : decode cX9_left 0 = .ok (.aload_n 0, 1) := by decide +kernel
theorem dX9_left_1 : decode cX9_left 1 = .ok (.aload_n 0, 1) := by decide +kernel
theorem dX9_left_2 : decode cX9_left 2 = .ok (.iload_n 1, 1) := by decide +kernel
theorem dX9_left_3 : decode cX9_left 3 = .ok (.invokevirtual 118, 3) := by decide +kernel
theorem dX9_left_6 : decode cX9_left 6 = .ok (.ifCond .ne 7, 3) := by decide +kernel
theorem dX9_left_9 : decode cX9_left 9 = .ok (.iconst 1, 1) := by decide +kernel
theorem dX9_left_10 : decode cX9_left 10 = .ok (.goto 17, 3) := by decide +kernel
theorem dX9_left_13 : decode cX9_left 13 = .ok (.iload_n 2, 1) := by decide +kernel
theorem dX9_left_14 : decode cX9_left 14 = .ok (.iconst 0, 1) := by decide +kernel
theorem dX9_left_15 : decode cX9_left 15 = .ok (.iconst 5, 1) := by decide +kernel
theorem dX9_left_16 : decode cX9_left 16 = .ok (.invokestatic 44, 3) := by decide +kernel
theorem dX9_left_19 : decode cX9_left 19 = .ok (.ifCond .eq 7, 3) := by decide +kernel
theorem dX9_left_22 : decode cX9_left 22 = .ok (.iconst 0, 1) := by decide +kernel
theorem dX9_left_23 : decode cX9_left 23 = .ok (.goto 4, 3) := by decide +kernel
theorem dX9_left_26 : decode cX9_left 26 = .ok (.iconst 2, 1) := by decide +kernel
theorem dX9_left_27 : decode cX9_left 27 = .ok (.putfield 41, 3) := by decide +kernel
theorem dX9_left_30 : decode cX9_left 30 = .ok (.aload_n 0, 1) := by decide +kernel
theorem dX9_left_31 : decode cX9_left 31 = .ok (.getfield 41, 3) := by decide +kernel
theorem dX9_left_34 : decode cX9_left 34 = .ok (.ifCond .eq 5, 3) := by decide +kernel
theorem dX9_left_37 : decode cX9_left 37 = .ok (.iconst 0, 1) := by decide +kernel
theorem dX9_left_38 : decode cX9_left 38 = .ok (.ireturn, 1) := by decide +kernel
theorem dX9_left_39 : decode cX9_left 39 = .ok (.iload_n 2, 1) := by decide +kernel
theorem dX9_left_40 : decode cX9_left 40 = .ok (.tableswitch 72 0 3 #[32, 39, 59, 66], 32) := by decide +kernel
theorem dX9_left_72 : decode cX9_left 72 = .ok (.aload_n 0, 1) := by decide +kernel
theorem dX9_left_73 : decode cX9_left 73 = .ok (.iload_n 1, 1) := by decide +kernel
theorem dX9_left_74 : decode cX9_left 74 = .ok (.iconst 0, 1) := by decide +kernel
theorem dX9_left_75 : decode cX9_left 75 = .ok (.invokevirtual 168, 3) := by decide +kernel
theorem dX9_left_78 : decode cX9_left 78 = .ok (.ireturn, 1) := by decide +kernel
theorem dX9_left_79 : decode cX9_left 79 = .ok (.aload_n 0, 1) := by decide +kernel
theorem dX9_left_80 : decode cX9_left 80 = .ok (.iload_n 1, 1) := by decide +kernel
theorem dX9_left_81 : decode cX9_left 81 = .ok (.invokevirtual 171, 3) := by decide +kernel
theorem dX9_left_84 : decode cX9_left 84 = .ok (.ldc 176, 2) := by decide +kernel
theorem dX9_left_86 : decode cX9_left 86 = .ok (.if_icmp .ne 7, 3) := by decide +kernel
theorem dX9_left_89 : decode cX9_left 89 = .ok (.iconst (-1), 1) := by decide +kernel
theorem dX9_left_90 : decode cX9_left 90 = .ok (.goto 8, 3) := by decide +kernel
theorem dX9_left_93 : decode cX9_left 93 = .ok (.aload_n 0, 1) := by decide +kernel
theorem dX9_left_94 : decode cX9_left 94 = .ok (.iload_n 1, 1) := by decide +kernel
theorem dX9_left_95 : decode cX9_left 95 = .ok (.invokevirtual 171, 3) := by decide +kernel
theorem dX9_left_98 : decode cX9_left 98 = .ok (.ireturn, 1) := by decide +kernel
theorem dX9_left_99 : decode cX9_left 99 = .ok (.aload_n 0, 1) := by decide +kernel
theorem dX9_left_100 : decode cX9_left 100 = .ok (.iload_n 1, 1) := by decide +kernel
theorem dX9_left_101 : decode cX9_left 101 = .ok (.iconst 2, 1) := by decide +kernel
theorem dX9_left_102 : decode cX9_left 102 = .ok (.invokevirtual 168, 3) := by decide +kernel
theorem dX9_left_105 : decode cX9_left 105 = .ok (.ireturn, 1) := by decide +kernel
theorem dX9_left_106 : decode cX9_left 106 = .ok (.aload_n 0, 1) := by decide +kernel
theorem dX9_left_107 : decode cX9_left 107 = .ok (.iload_n 1, 1) := by decide +kernel
theorem dX9_left_108 : decode cX9_left 108 = .ok (.invokevirtual 177, 3) := by decide +kernel
theorem dX9_left_111 : decode cX9_left 111 = .ok (.ireturn, 1) := by decide +kernel
theorem dX9_left_112 : decode cX9_left 112 = .ok (.aload_n 0, 1) := by decide +kernel
theorem dX9_left_113 : decode cX9_left 113 = .ok (.iload_n 1, 1) := by decide +kernel
theorem dX9_left_114 : decode cX9_left 114 = .ok (.iload_n 2, 1) := by decide +kernel
theorem dX9_left_115 : decode cX9_left 115 = .ok (.iconst 4, 1) := by decide +kernel
theorem dX9_left_116 : decode cX9_left 116 = .ok (.if_icmp .ne 7, 3) := by decide +kernel
theorem dX9_left_119 : decode cX9_left 119 = .ok (.iconst 1, 1) := by decide +kernel
theorem dX9_left_120 : decode cX9_left 120 = .ok (.goto 4, 3) := by decide +kernel
theorem dX9_left_123 : decode cX9_left 123 = .ok (.iconst 0, 1) := by decide +kernel
theorem dX9_left_124 : decode cX9_left 124 = .ok (.invokevirtual 180, 3) := by decide +kernel
theorem dX9_left_127 : decode cX9_left 127 = .ok (.ireturn, 1) := by decide +kernel
set_option maxRecDepth 20000 in
theorem ggX9_left_X9_isToken : GoodIn wsX9_left wsX9_isToken := goodIn_ca (goodIn_r _ [7, 8, 9, 10, 6, 11, 39, 40, 41, 42, 43, 44, 45, 46, 47, 48, 49, 50, 51, 52, 53, 54, 55, 56, 57, 58] (by decide +kernel) (by decide +kernel)) (goodIn_sub (fun _ h => List.mem_cons_of_mem _ (List.mem_append_right _ h)) (by decide +kernel))
set_option maxRecDepth 20000 in
theorem gX9_left_X9_isToken : GoodIn wsX9_left (wsV RX9 118 RX9 yX9_isToken wsX9_isToken) := goodIn_app (goodIn_of _ (by decide +kernel)) ggX9_left_X9_isToken
set_option maxRecDepth 20000 in
theorem ggX9_left_X9_isIn : GoodIn wsX9_left wsX9_isIn := goodIn_r _ [11] (by decide +kernel) (by decide +kernel)
set_option maxRecDepth 20000 in
theorem gX9_left_X9_isIn : GoodIn wsX9_left (va_wsS RX9 44 yX9_isIn wsX9_isIn) := goodIn_app (goodIn_of _ (by decide +kernel)) ggX9_left_X9_isIn
set_option maxRecDepth 20000 in
theorem ggX9_left_X9_argumentLeft : GoodIn wsX9_left wsX9_argumentLeft := goodIn_ca (goodIn_r _ [38, 8, 32, 33, 26, 34, 24, 25, 27, 16, 17, 18, 6, 19, 39, 40, 41, 42, 43, 44, 45, 46, 47, 48, 49, 50, 51, 52, 53, 54, 55, 56, 57, 58] (by decide +kernel) (by decide +kernel)) (goodIn_sub (fun _ h => List.mem_cons_of_mem _ (List.mem_append_right _ h)) (by decide +kernel))
set_option maxRecDepth 20000 in
theorem gX9_left_X9_argumentLeft : GoodIn wsX9_left (wsV RX9 180 RX9 yX9_argumentLeft wsX9_argumentLeft) := goodIn_app (goodIn_of _ (by decide +kernel)) ggX9_left_X9_argumentLeft
set_option maxRecDepth 20000 in
theorem ggX9_left_X9_setLeft : GoodIn wsX9_left wsX9_setLeft := goodIn_ca (goodIn_r _ [15, 8, 16, 17, 18, 6, 19, 39, 40, 41, 42, 43, 44, 45, 46, 47, 48, 49, 50, 51, 52, 53, 54, 55, 56, 57, 58] (by decide +kernel) (by decide +kernel)) (goodIn_sub (fun _ h => List.mem_cons_of_mem _ (List.mem_append_right _ h)) (by decide +kernel))
set_option maxRecDepth 20000 in
theorem gX9_left_X9_setLeft : GoodIn wsX9_left (wsV RX9 168 RX9 yX9_setLeft wsX9_setLeft) := goodIn_app (goodIn_of _ (by decide +kernel)) ggX9_left_X9_setLeft
set_option maxRecDepth 20000 in
theorem ggX9_left_X9_endOf : GoodIn wsX9_left wsX9_endOf := goodIn_ca (goodIn_r _ [23, 2, 8, 24, 25, 26, 27, 16, 17, 18, 6, 19, 39, 40, 41, 42, 43, 44, 45, 46, 47, 48, 49, 50, 51, 52, 53, 54, 55, 56, 57, 58] (by decide +kernel) (by decide +kernel)) (goodIn_sub (fun _ h => List.mem_cons_of_mem _ (List.mem_append_right _ h)) (by decide +kernel))
set_option maxRecDepth 20000 in
theorem gX9_left_X9_endOf : GoodIn wsX9_left (wsV RX9 171 RX9 yX9_endOf wsX9_endOf) := goodIn_app (goodIn_of _ (by decide +kernel)) ggX9_left_X9_endOf
set_option maxRecDepth 20000 in
theorem ggX9_left_X9_timesLeft : GoodIn wsX9_left wsX9_timesLeft := goodIn_ca (goodIn_r _ [31, 8, 32, 33, 26, 34, 24, 25, 27, 16, 17, 18, 6, 19, 39, 40, 41, 42, 43, 44, 45, 46, 47, 48, 49, 50, 51, 52, 53, 54, 55, 56, 57, 58] (by decide +kernel) (by decide +kernel)) (goodIn_sub (fun _ h => List.mem_cons_of_mem _ (List.mem_append_right _ h)) (by decide +kernel))
set_option maxRecDepth 20000 in
theorem gX9_left_X9_timesLeft : GoodIn wsX9_left (wsV RX9 177 RX9 yX9_timesLeft wsX9_timesLeft) := goodIn_app (goodIn_of _ (by decide +kernel)) ggX9_left_X9_timesLeft
def rm_X9_left : Room := { frames := 3, cells := 0, slots := 0, locals := 66 }
set_option maxHeartbeats 4000000 in
set_option maxRecDepth 100000 in
theorem c_X9_left (l : Launch) {nb : Nat} {G : zG} {ad : Nat → Nat} {σ σ' : zs} {a1 a2 : Int32} {r : Int32} (hf : f_X9_left σ a1 a2 = some (r, σ')) : zMi l yX9_left wsX9_left rm_X9_left G (zS nb) ad σ [.ref (ad 65), .int a1, .int a2] r σ' := by
  intro sz
  refine Met.ofW (cc := cX9_left) (maxL := 3) (ret := (some .int)) (by decide) rfl ?_
  intro p e s m args below meth c s₁ B hml hv
  obtain ⟨rfl, hsz, hv⟩ := hv
  have hx := B.exec
  have hb := B.bytes
  have hr := B.returns
  have hts := atoms_spec (ws := wsX9_left) B.pre
  have hown : s.vm.findClass RX9 = some m.cls := findClass_of_methodNamed B.named
  have hlocks := B.notSynchronized
  subst hsz
  have B := zB_start hv
  have hinRX9 : ∀ w ∈ wsX90, w ∈ wsX9_left := by decide +kernel
  have hl := lv_entry ([.ref (ad 65), .int a1, .int a2]) (n := 3) (Nat.le_of_ble_eq_true rfl)
  rw [lg_entry_eq]
  generalize (lg_sl ([.ref (ad 65), .int a1, .int a2]) ++ List.replicate (3 - (lg_sl ([.ref (ad 65), .int a1, .int a2])).length) Slot.unset).toArray = ls at hl ⊢
  have hl : lv_has ls 3 [(0, .ref (ad 65)), (1, .int a1), (2, .int a2)] := hl
  generalize hAe : zA ad (zS nb).length s.heap.size = A at B ⊢
  have L124 : ∀ (σ : zs) (s0 : Int32) (s1 : Int32) (H : Heap) (locs : List Loc) (ls : Array Slot), f_X9_left_124 σ s0 s1 = some (r, σ') → zB A s G (zS nb) ad σ H locs → lv_has ls 3 [] → W p l e (headSpec wsX9_left rm_X9_left).room s m ([.ref (ad 65), .int a1, .int a2] : List Value).toArray below meth c H locs 0 0 (MQ below (va_Qi (fun r' (_ : Unit) => r' = r) (zPost G (zS nb) ad σ') A) ([.ref (ad 65), .int a1, .int a2] : List Value).toArray s 0 0 A) (F0 m 124 ls [.int s0, .int s1, .ref (ad 65)]) := by
    intro σ s0 s1 H locs ls hf B hl
    unfold f_X9_left_124 at hf
    obtain ⟨r8, σ9, hu7, hf⟩ := zb_some hf
    refine z_i B (va_runV (As := [.int s1, .int s0]) (rest := []) ⟨hx, hb, hml, hown, hts⟩ (c_X9_argumentLeft l hu7 _) (cwV 2 hts gX9_left_X9_argumentLeft rfl rfl rfl (by decide +kernel) ⟨Nat.le_of_ble_eq_true rfl, Nat.le_of_ble_eq_true rfl⟩) (z_preV B rfl rfl) rfl rfl hl.1 rfl (lv_room (Nat.le_of_ble_eq_true rfl)) dX9_left_124 ⟨Nat.le_of_ble_eq_true rfl, Nat.le_of_ble_eq_true rfl⟩) (fun H locs B => ?_)
    refine W.widen (k := 0) (n := 0) (Nat.le_of_ble_eq_true rfl) (Nat.le_of_ble_eq_true rfl) ?_
    exact z_iret hx hb hr rfl hlocks B hf dX9_left_127
  have L27 : ∀ (σ : zs) (v1 : Int32) (v2 : Int32) (s0 : Int32) (H : Heap) (locs : List Loc) (ls : Array Slot), f_X9_left_27 σ v1 v2 s0 = some (r, σ') → zB A s G (zS nb) ad σ H locs → lv_has ls 3 [(0, .ref (ad 65)), (1, .int v1), (2, .int v2)] → W p l e (headSpec wsX9_left rm_X9_left).room s m ([.ref (ad 65), .int a1, .int a2] : List Value).toArray below meth c H locs 0 0 (MQ below (va_Qi (fun r' (_ : Unit) => r' = r) (zPost G (zS nb) ad σ') A) ([.ref (ad 65), .int a1, .int a2] : List Value).toArray s 0 0 A) (F0 m 27 ls [.int s0, .ref (ad 65)]) := by
    intro σ v1 v2 s0 H locs ls hf B hl
    unfold f_X9_left_27 at hf
    refine z_puti hx hb hts hinRX9 hown tyX9 tyX9_ok nmX9 B 65 3 rfl rfl rfl (by decide) (by decide +kernel) rfl rfl rfl rfl dX9_left_27 (fun H locs B => ?_)
    refine lv_aload_n hx hb dX9_left_30 rfl (lv_at hl 0 rfl) ?_
    refine z_geti hx hb hts hinRX9 hown B 65 3 rfl rfl rfl (by decide) (by decide +kernel) rfl dX9_left_31 ?_
    refine lv_if_eq (tgt := 39) hx hb dX9_left_34 (by decide) (fun hc => ?_) (fun hc => ?_)
    · have hf := zif_t hc hf
      refine lv_iload_n hx hb dX9_left_39 rfl (lv_at hl 2 rfl) ?_
      by_cases hc0 : v2 = (0 : Int32)
      · have hf := zif_t hc0 hf
        refine lv_tableIn (off := 32) (tgt := 72) hx hb dX9_left_40 (by rw [hc0]; decide) (by rw [hc0]; decide) (by rw [hc0]; rfl) (by decide) ?_
        refine lv_aload_n hx hb dX9_left_72 rfl (lv_at hl 0 rfl) ?_
        refine lv_iload_n hx hb dX9_left_73 rfl (lv_at hl 1 rfl) ?_
        refine lv_iconst (v := (0 : Int32)) hx hb dX9_left_74 (by decide) ?_
        obtain ⟨r11, σ12, hu10, hf⟩ := zb_some hf
        refine z_i B (va_runV (As := [.int v1, .int (0 : Int32)]) (rest := []) ⟨hx, hb, hml, hown, hts⟩ (c_X9_setLeft l hu10 _) (cwV 2 hts gX9_left_X9_setLeft rfl rfl rfl (by decide +kernel) ⟨Nat.le_of_ble_eq_true rfl, Nat.le_of_ble_eq_true rfl⟩) (z_preV B rfl rfl) rfl rfl hl.1 rfl (lv_room (Nat.le_of_ble_eq_true rfl)) dX9_left_75 ⟨Nat.le_of_ble_eq_true rfl, Nat.le_of_ble_eq_true rfl⟩) (fun H locs B => ?_)
        refine W.widen (k := 0) (n := 0) (Nat.le_of_ble_eq_true rfl) (Nat.le_of_ble_eq_true rfl) ?_
        exact z_iret hx hb hr rfl hlocks B hf dX9_left_78
      have hf := zif_f hc0 hf
      by_cases hc1 : v2 = (1 : Int32)
      · have hf := zif_t hc1 hf
        refine lv_tableIn (off := 39) (tgt := 79) hx hb dX9_left_40 (by rw [hc1]; decide) (by rw [hc1]; decide) (by rw [hc1]; rfl) (by decide) ?_
        refine lv_aload_n hx hb dX9_left_79 rfl (lv_at hl 0 rfl) ?_
        refine lv_iload_n hx hb dX9_left_80 rfl (lv_at hl 1 rfl) ?_
        obtain ⟨r14, σ15, hu13, hf⟩ := zb_some hf
        refine z_i B (va_runV (As := [.int v1]) (rest := []) ⟨hx, hb, hml, hown, hts⟩ (c_X9_endOf l hu13 _) (cwV 1 hts gX9_left_X9_endOf rfl rfl rfl (by decide +kernel) ⟨Nat.le_of_ble_eq_true rfl, Nat.le_of_ble_eq_true rfl⟩) (z_preV B rfl rfl) rfl rfl hl.1 rfl (lv_room (Nat.le_of_ble_eq_true rfl)) dX9_left_81 ⟨Nat.le_of_ble_eq_true rfl, Nat.le_of_ble_eq_true rfl⟩) (fun H locs B => ?_)
        refine lv_ldc (v := (2147483647 : Int32)) hx hb hown (hts (.constant RX9 176 (2147483647)) (by decide +kernel)) dX9_left_84 ?_
        refine lv_icmp_ne (tgt := 93) hx hb dX9_left_86 (by decide) (fun hc => ?_) (fun hc => ?_)
        · have hf := zif_f hc hf
          refine lv_aload_n hx hb dX9_left_93 rfl (lv_at hl 0 rfl) ?_
          refine lv_iload_n hx hb dX9_left_94 rfl (lv_at hl 1 rfl) ?_
          obtain ⟨r17, σ18, hu16, hf⟩ := zb_some hf
          refine z_i B (va_runV (As := [.int v1]) (rest := []) ⟨hx, hb, hml, hown, hts⟩ (c_X9_endOf l hu16 _) (cwV 1 hts gX9_left_X9_endOf rfl rfl rfl (by decide +kernel) ⟨Nat.le_of_ble_eq_true rfl, Nat.le_of_ble_eq_true rfl⟩) (z_preV B rfl rfl) rfl rfl hl.1 rfl (lv_room (Nat.le_of_ble_eq_true rfl)) dX9_left_95 ⟨Nat.le_of_ble_eq_true rfl, Nat.le_of_ble_eq_true rfl⟩) (fun H locs B => ?_)
          refine W.widen (k := 0) (n := 0) (Nat.le_of_ble_eq_true rfl) (Nat.le_of_ble_eq_true rfl) ?_
          exact z_iret hx hb hr rfl hlocks B hf dX9_left_98
        · have hf := zif_t hc hf
          refine lv_iconst (v := (-1 : Int32)) hx hb dX9_left_89 (by decide) ?_
          refine lv_goto (tgt := 98) hx hb dX9_left_90 (by decide) ?_
          refine W.widen (k := 0) (n := 0) (Nat.le_of_ble_eq_true rfl) (Nat.le_of_ble_eq_true rfl) ?_
          exact z_iret hx hb hr rfl hlocks B hf dX9_left_98
      have hf := zif_f hc1 hf
      by_cases hc2 : v2 = (2 : Int32)
      · have hf := zif_t hc2 hf
        refine lv_tableIn (off := 59) (tgt := 99) hx hb dX9_left_40 (by rw [hc2]; decide) (by rw [hc2]; decide) (by rw [hc2]; rfl) (by decide) ?_
        refine lv_aload_n hx hb dX9_left_99 rfl (lv_at hl 0 rfl) ?_
        refine lv_iload_n hx hb dX9_left_100 rfl (lv_at hl 1 rfl) ?_
        refine lv_iconst (v := (2 : Int32)) hx hb dX9_left_101 (by decide) ?_
        obtain ⟨r20, σ21, hu19, hf⟩ := zb_some hf
        refine z_i B (va_runV (As := [.int v1, .int (2 : Int32)]) (rest := []) ⟨hx, hb, hml, hown, hts⟩ (c_X9_setLeft l hu19 _) (cwV 2 hts gX9_left_X9_setLeft rfl rfl rfl (by decide +kernel) ⟨Nat.le_of_ble_eq_true rfl, Nat.le_of_ble_eq_true rfl⟩) (z_preV B rfl rfl) rfl rfl hl.1 rfl (lv_room (Nat.le_of_ble_eq_true rfl)) dX9_left_102 ⟨Nat.le_of_ble_eq_true rfl, Nat.le_of_ble_eq_true rfl⟩) (fun H locs B => ?_)
        refine W.widen (k := 0) (n := 0) (Nat.le_of_ble_eq_true rfl) (Nat.le_of_ble_eq_true rfl) ?_
        exact z_iret hx hb hr rfl hlocks B hf dX9_left_105
      have hf := zif_f hc2 hf
      by_cases hc3 : v2 = (3 : Int32)
      · have hf := zif_t hc3 hf
        refine lv_tableIn (off := 66) (tgt := 106) hx hb dX9_left_40 (by rw [hc3]; decide) (by rw [hc3]; decide) (by rw [hc3]; rfl) (by decide) ?_
        refine lv_aload_n hx hb dX9_left_106 rfl (lv_at hl 0 rfl) ?_
        refine lv_iload_n hx hb dX9_left_107 rfl (lv_at hl 1 rfl) ?_
        obtain ⟨r23, σ24, hu22, hf⟩ := zb_some hf
        refine z_i B (va_runV (As := [.int v1]) (rest := []) ⟨hx, hb, hml, hown, hts⟩ (c_X9_timesLeft l hu22 _) (cwV 1 hts gX9_left_X9_timesLeft rfl rfl rfl (by decide +kernel) ⟨Nat.le_of_ble_eq_true rfl, Nat.le_of_ble_eq_true rfl⟩) (z_preV B rfl rfl) rfl rfl hl.1 rfl (lv_room (Nat.le_of_ble_eq_true rfl)) dX9_left_108 ⟨Nat.le_of_ble_eq_true rfl, Nat.le_of_ble_eq_true rfl⟩) (fun H locs B => ?_)
        refine W.widen (k := 0) (n := 0) (Nat.le_of_ble_eq_true rfl) (Nat.le_of_ble_eq_true rfl) ?_
        exact z_iret hx hb hr rfl hlocks B hf dX9_left_111
      have hf := zif_f hc3 hf
      refine lv_tableOut (tgt := 112) hx hb dX9_left_40 (zsw_out (fun j h1 h2 hj => ?_)) (by decide) ?_
      · have hd : j = 0 ∨ j = 1 ∨ j = 2 ∨ j = 3 := by omega
        rcases hd with rfl | rfl | rfl | rfl
        · exact hc0 (Int32.toInt_inj.mp (hj.trans (by decide)))
        · exact hc1 (Int32.toInt_inj.mp (hj.trans (by decide)))
        · exact hc2 (Int32.toInt_inj.mp (hj.trans (by decide)))
        · exact hc3 (Int32.toInt_inj.mp (hj.trans (by decide)))
      refine lv_aload_n hx hb dX9_left_112 rfl (lv_at hl 0 rfl) ?_
      refine lv_iload_n hx hb dX9_left_113 rfl (lv_at hl 1 rfl) ?_
      refine lv_iload_n hx hb dX9_left_114 rfl (lv_at hl 2 rfl) ?_
      refine lv_iconst (v := (4 : Int32)) hx hb dX9_left_115 (by decide) ?_
      refine lv_icmp_ne (tgt := 123) hx hb dX9_left_116 (by decide) (fun hc => ?_) (fun hc => ?_)
      · have hf := zif_f hc hf
        refine lv_iconst (v := (0 : Int32)) hx hb dX9_left_123 (by decide) ?_
        exact L124  _ _ _ _ _ _ hf B (lv_sub hl [] rfl)
      · have hf := zif_t hc hf
        refine lv_iconst (v := (1 : Int32)) hx hb dX9_left_119 (by decide) ?_
        refine lv_goto (tgt := 124) hx hb dX9_left_120 (by decide) ?_
        exact L124  _ _ _ _ _ _ hf B (lv_sub hl [] rfl)
    · have hf := zif_f hc hf
      refine lv_iconst (v := (0 : Int32)) hx hb dX9_left_37 (by decide) ?_
      refine W.widen (k := 0) (n := 0) (Nat.le_of_ble_eq_true rfl) (Nat.le_of_ble_eq_true rfl) ?_
      exact z_iret hx hb hr rfl hlocks B hf dX9_left_38
  unfold f_X9_left at hf
  refine lv_aload_n hx hb dX9_left_0 rfl (lv_at hl 0 rfl) ?_
  refine lv_aload_n hx hb dX9_left_1 rfl (lv_at hl 0 rfl) ?_
  refine lv_iload_n hx hb dX9_left_2 rfl (lv_at hl 1 rfl) ?_
  obtain ⟨r2, σ3, hu1, hf⟩ := zb_some hf
  refine z_i B (va_runV (As := [.int a1]) (rest := [.ref (ad 65)]) ⟨hx, hb, hml, hown, hts⟩ (c_X9_isToken l hu1 _) (cwV 1 hts gX9_left_X9_isToken rfl rfl rfl (by decide +kernel) ⟨Nat.le_of_ble_eq_true rfl, Nat.le_of_ble_eq_true rfl⟩) (z_preV B rfl rfl) rfl rfl hl.1 rfl (lv_room (Nat.le_of_ble_eq_true rfl)) dX9_left_3 ⟨Nat.le_of_ble_eq_true rfl, Nat.le_of_ble_eq_true rfl⟩) (fun H locs B => ?_)
  refine lv_if_ne (tgt := 13) hx hb dX9_left_6 (by decide) (fun hc => ?_) (fun hc => ?_)
  · have hf := zif_f hc hf
    refine lv_iload_n hx hb dX9_left_13 rfl (lv_at hl 2 rfl) ?_
    refine lv_iconst (v := (0 : Int32)) hx hb dX9_left_14 (by decide) ?_
    refine lv_iconst (v := (5 : Int32)) hx hb dX9_left_15 (by decide) ?_
    obtain ⟨r5, σ6, hu4, hf⟩ := zb_some hf
    refine z_i B (va_runS (As := [.int a2, .int (0 : Int32), .int (5 : Int32)]) (rest := [.ref (ad 65)]) ⟨hx, hb, hml, hown, hts⟩ (c_X9_isIn l hu4 _) (va_cwS 3 hts gX9_left_X9_isIn rfl rfl rfl (by decide +kernel) ⟨Nat.le_of_ble_eq_true rfl, Nat.le_of_ble_eq_true rfl⟩) (z_preS B) rfl rfl hl.1 rfl (lv_room (Nat.le_of_ble_eq_true rfl)) dX9_left_16 ⟨Nat.le_of_ble_eq_true rfl, Nat.le_of_ble_eq_true rfl⟩) (fun H locs B => ?_)
    refine lv_if_eq (tgt := 26) hx hb dX9_left_19 (by decide) (fun hc => ?_) (fun hc => ?_)
    · have hf := zif_t hc hf
      refine lv_iconst (v := (2 : Int32)) hx hb dX9_left_26 (by decide) ?_
      exact L27  _ _ _ _ _ _ _ hf B (lv_sub hl [0, 1, 2] rfl)
    · have hf := zif_f hc hf
      refine lv_iconst (v := (0 : Int32)) hx hb dX9_left_22 (by decide) ?_
      refine lv_goto (tgt := 27) hx hb dX9_left_23 (by decide) ?_
      exact L27  _ _ _ _ _ _ _ hf B (lv_sub hl [0, 1, 2] rfl)
  · have hf := zif_t hc hf
    refine lv_iconst (v := (1 : Int32)) hx hb dX9_left_9 (by decide) ?_
    refine lv_goto (tgt := 27) hx hb dX9_left_10 (by decide) ?_
    exact L27  _ _ _ _ _ _ _ hf B (lv_sub hl [0, 1, 2] rfl)
theorem dX9_holders_0 : decode cX9_holders 0 = .ok (.aload_n 0, 1) := by decide +kernel
theorem dX9_holders_1 : decode cX9_holders 1 = .ok (.aload_n 0, 1) := by decide +kernel
theorem dX9_holders_2 : decode cX9_holders 2 = .ok (.iload_n 1, 1) := by decide +kernel
theorem dX9_holders_3 : decode cX9_holders 3 = .ok (.invokevirtual 118, 3) := by decide +kernel
theorem dX9_holders_6 : decode cX9_holders 6 = .ok (.ifCond .eq 7, 3) := by decide +kernel
theorem dX9_holders_9 : decode cX9_holders 9 = .ok (.iconst 0, 1) := by decide +kernel
theorem dX9_holders_10 : decode cX9_holders 10 = .ok (.goto 4, 3) := by decide +kernel
theorem dX9_holders_13 : decode cX9_holders 13 = .ok (.iconst 1, 1) := by decide +kernel
theorem dX9_holders_14 : decode cX9_holders 14 = .ok (.putfield 41, 3) := by decide +kernel
theorem dX9_holders_17 : decode cX9_holders 17 = .ok (.aload_n 0, 1) := by decide +kernel
theorem dX9_holders_18 : decode cX9_holders 18 = .ok (.getfield 41, 3) := by decide +kernel
theorem dX9_holders_21 : decode cX9_holders 21 = .ok (.ifCond .ne 15, 3) := by decide +kernel
theorem dX9_holders_24 : decode cX9_holders 24 = .ok (.aload_n 0, 1) := by decide +kernel
theorem dX9_holders_25 : decode cX9_holders 25 = .ok (.getfield 9, 3) := by decide +kernel
theorem dX9_holders_28 : decode cX9_holders 28 = .ok (.bipush 107, 2) := by decide +kernel
theorem dX9_holders_30 : decode cX9_holders 30 = .ok (.iload_n 1, 1) := by decide +kernel
theorem dX9_holders_31 : decode cX9_holders 31 = .ok (.iadd, 1) := by decide +kernel
theorem dX9_holders_32 : decode cX9_holders 32 = .ok (.iaload, 1) := by decide +kernel
theorem dX9_holders_33 : decode cX9_holders 33 = .ok (.goto 4, 3) := by decide +kernel
theorem dX9_holders_36 : decode cX9_holders 36 = .ok (.iconst 0, 1) := by decide +kernel
theorem dX9_holders_37 : decode cX9_holders 37 = .ok (.ireturn, 1) := by decide +kernel
set_option maxRecDepth 20000 in
theorem ggX9_holders_X9_isToken : GoodIn wsX9_holders wsX9_isToken := goodIn_ca (goodIn_r _ [7, 2, 8, 9, 6, 10, 11, 12, 13, 14, 15, 16, 17, 18, 19, 20, 21, 22, 23, 24, 25, 26, 27, 28, 29, 30] (by decide +kernel) (by decide +kernel)) (goodIn_sub (fun _ h => List.mem_cons_of_mem _ (List.mem_append_right _ h)) (by decide +kernel))
set_option maxRecDepth 20000 in
theorem gX9_holders_X9_isToken : GoodIn wsX9_holders (wsV RX9 118 RX9 yX9_isToken wsX9_isToken) := goodIn_app (goodIn_of _ (by decide +kernel)) ggX9_holders_X9_isToken
def rm_X9_holders : Room := { frames := 3, cells := 0, slots := 0, locals := 59 }
set_option maxHeartbeats 4000000 in
set_option maxRecDepth 100000 in
theorem c_X9_holders (l : Launch) {nb : Nat} {G : zG} {ad : Nat → Nat} {σ σ' : zs} {a1 : Int32} {r : Int32} (hf : f_X9_holders σ a1 = some (r, σ')) : zMi l yX9_holders wsX9_holders rm_X9_holders G (zS nb) ad σ [.ref (ad 65), .int a1] r σ' := by
  intro sz
  refine Met.ofW (cc := cX9_holders) (maxL := 2) (ret := (some .int)) (by decide) rfl ?_
  intro p e s m args below meth c s₁ B hml hv
  obtain ⟨rfl, hsz, hv⟩ := hv
  have hx := B.exec
  have hb := B.bytes
  have hr := B.returns
  have hts := atoms_spec (ws := wsX9_holders) B.pre
  have hown : s.vm.findClass RX9 = some m.cls := findClass_of_methodNamed B.named
  have hlocks := B.notSynchronized
  subst hsz
  have B := zB_start hv
  have hinRX9 : ∀ w ∈ wsX90, w ∈ wsX9_holders := by decide +kernel
  have hl := lv_entry ([.ref (ad 65), .int a1]) (n := 2) (Nat.le_of_ble_eq_true rfl)
  rw [lg_entry_eq]
  generalize (lg_sl ([.ref (ad 65), .int a1]) ++ List.replicate (2 - (lg_sl ([.ref (ad 65), .int a1])).length) Slot.unset).toArray = ls at hl ⊢
  have hl : lv_has ls 2 [(0, .ref (ad 65)), (1, .int a1)] := hl
  generalize hAe : zA ad (zS nb).length s.heap.size = A at B ⊢
  have L14 : ∀ (σ : zs) (v1 : Int32) (s0 : Int32) (H : Heap) (locs : List Loc) (ls : Array Slot), f_X9_holders_14 σ v1 s0 = some (r, σ') → zB A s G (zS nb) ad σ H locs → lv_has ls 2 [(0, .ref (ad 65)), (1, .int v1)] → W p l e (headSpec wsX9_holders rm_X9_holders).room s m ([.ref (ad 65), .int a1] : List Value).toArray below meth c H locs 0 0 (MQ below (va_Qi (fun r' (_ : Unit) => r' = r) (zPost G (zS nb) ad σ') A) ([.ref (ad 65), .int a1] : List Value).toArray s 0 0 A) (F0 m 14 ls [.int s0, .ref (ad 65)]) := by
    intro σ v1 s0 H locs ls hf B hl
    unfold f_X9_holders_14 at hf
    refine z_puti hx hb hts hinRX9 hown tyX9 tyX9_ok nmX9 B 65 3 rfl rfl rfl (by decide) (by decide +kernel) rfl rfl rfl rfl dX9_holders_14 (fun H locs B => ?_)
    refine lv_aload_n hx hb dX9_holders_17 rfl (lv_at hl 0 rfl) ?_
    refine z_geti hx hb hts hinRX9 hown B 65 3 rfl rfl rfl (by decide) (by decide +kernel) rfl dX9_holders_18 ?_
    refine lv_if_ne (tgt := 36) hx hb dX9_holders_21 (by decide) (fun hc => ?_) (fun hc => ?_)
    · have hf := zif_f hc hf
      refine lv_iconst (v := (0 : Int32)) hx hb dX9_holders_36 (by decide) ?_
      refine W.widen (k := 0) (n := 0) (Nat.le_of_ble_eq_true rfl) (Nat.le_of_ble_eq_true rfl) ?_
      exact z_iret hx hb hr rfl hlocks B hf dX9_holders_37
    · have hf := zif_t hc hf
      refine lv_aload_n hx hb dX9_holders_24 rfl (lv_at hl 0 rfl) ?_
      refine z_getr hx hb hts hinRX9 hown B 65 0 66 rfl rfl rfl (by decide) (by decide +kernel) rfl dX9_holders_25 ?_
      refine lv_bipush (v := (107 : Int32)) hx hb dX9_holders_28 (by decide) ?_
      refine lv_iload_n hx hb dX9_holders_30 rfl (lv_at hl 1 rfl) ?_
      refine lv_iadd hx hb dX9_holders_31 ?_
      obtain ⟨hg, hf⟩ := zg_some hf
      refine z_iald hx hb B 66 rfl (zin_ok hg) dX9_holders_32 ?_
      refine lv_goto (tgt := 37) hx hb dX9_holders_33 (by decide) ?_
      refine W.widen (k := 0) (n := 0) (Nat.le_of_ble_eq_true rfl) (Nat.le_of_ble_eq_true rfl) ?_
      exact z_iret hx hb hr rfl hlocks B hf dX9_holders_37
  unfold f_X9_holders at hf
  refine lv_aload_n hx hb dX9_holders_0 rfl (lv_at hl 0 rfl) ?_
  refine lv_aload_n hx hb dX9_holders_1 rfl (lv_at hl 0 rfl) ?_
  refine lv_iload_n hx hb dX9_holders_2 rfl (lv_at hl 1 rfl) ?_
  obtain ⟨r2, σ3, hu1, hf⟩ := zb_some hf
  refine z_i B (va_runV (As := [.int a1]) (rest := [.ref (ad 65)]) ⟨hx, hb, hml, hown, hts⟩ (c_X9_isToken l hu1 _) (cwV 1 hts gX9_holders_X9_isToken rfl rfl rfl (by decide +kernel) ⟨Nat.le_of_ble_eq_true rfl, Nat.le_of_ble_eq_true rfl⟩) (z_preV B rfl rfl) rfl rfl hl.1 rfl (lv_room (Nat.le_of_ble_eq_true rfl)) dX9_holders_3 ⟨Nat.le_of_ble_eq_true rfl, Nat.le_of_ble_eq_true rfl⟩) (fun H locs B => ?_)
  refine lv_if_eq (tgt := 13) hx hb dX9_holders_6 (by decide) (fun hc => ?_) (fun hc => ?_)
  · have hf := zif_t hc hf
    refine lv_iconst (v := (1 : Int32)) hx hb dX9_holders_13 (by decide) ?_
    exact L14  _ _ _ _ _ _ hf B (lv_sub hl [0, 1] rfl)
  · have hf := zif_f hc hf
    refine lv_iconst (v := (0 : Int32)) hx hb dX9_holders_9 (by decide) ?_
    refine lv_goto (tgt := 14) hx hb dX9_holders_10 (by decide) ?_
    exact L14  _ _ _ _ _ _ hf B (lv_sub hl [0, 1] rfl)
theorem dX9_heldBy_0 : decode cX9_heldBy 0 = .ok (.iconst 0, 1) := by decide +kernel
theorem dX9_heldBy_1 : decode cX9_heldBy 1 = .ok (.istore_n 2, 1) := by decide +kernel
theorem dX9_heldBy_2 : decode cX9_heldBy 2 = .ok (.iconst 0, 1) := by decide +kernel
theorem dX9_heldBy_3 : decode cX9_heldBy 3 = .ok (.istore_n 3, 1) := by decide +kernel
theorem dX9_heldBy_4 : decode cX9_heldBy 4 = .ok (.iload_n 3, 1) := by decide +kernel
theorem dX9_heldBy_5 : decode cX9_heldBy 5 = .ok (.aload_n 0, 1) := by decide +kernel
theorem dX9_heldBy_6 : decode cX9_heldBy 6 = .ok (.getfield 9, 3) := by decide +kernel
theorem dX9_heldBy_9 : decode cX9_heldBy 9 = .ok (.iconst 1, 1) := by decide +kernel
theorem dX9_heldBy_10 : decode cX9_heldBy 10 = .ok (.iaload, 1) := by decide +kernel
theorem dX9_heldBy_11 : decode cX9_heldBy 11 = .ok (.if_icmp .ge 35, 3) := by decide +kernel
theorem dX9_heldBy_14 : decode cX9_heldBy 14 = .ok (.iload_n 2, 1) := by decide +kernel
theorem dX9_heldBy_15 : decode cX9_heldBy 15 = .ok (.aload_n 0, 1) := by decide +kernel
theorem dX9_heldBy_16 : decode cX9_heldBy 16 = .ok (.getfield 9, 3) := by decide +kernel
theorem dX9_heldBy_19 : decode cX9_heldBy 19 = .ok (.bipush 107, 2) := by decide +kernel
theorem dX9_heldBy_21 : decode cX9_heldBy 21 = .ok (.iload_n 3, 1) := by decide +kernel
theorem dX9_heldBy_22 : decode cX9_heldBy 22 = .ok (.iadd, 1) := by decide +kernel
theorem dX9_heldBy_23 : decode cX9_heldBy 23 = .ok (.iaload, 1) := by decide +kernel
theorem dX9_heldBy_24 : decode cX9_heldBy 24 = .ok (.iload_n 1, 1) := by decide +kernel
theorem dX9_heldBy_25 : decode cX9_heldBy 25 = .ok (.invokestatic 59, 3) := by decide +kernel
theorem dX9_heldBy_28 : decode cX9_heldBy 28 = .ok (.ifCond .eq 9, 3) := by decide +kernel
theorem dX9_heldBy_31 : decode cX9_heldBy 31 = .ok (.iconst 1, 1) := by decide +kernel
theorem dX9_heldBy_32 : decode cX9_heldBy 32 = .ok (.iload_n 3, 1) := by decide +kernel
theorem dX9_heldBy_33 : decode cX9_heldBy 33 = .ok (.ishl, 1) := by decide +kernel
theorem dX9_heldBy_34 : decode cX9_heldBy 34 = .ok (.goto 4, 3) := by decide +kernel
theorem dX9_heldBy_37 : decode cX9_heldBy 37 = .ok (.iconst 0, 1) := by decide +kernel
theorem dX9_heldBy_38 : decode cX9_heldBy 38 = .ok (.ior, 1) := by decide +kernel
theorem dX9_heldBy_39 : decode cX9_heldBy 39 = .ok (.istore_n 2, 1) := by decide +kernel
theorem dX9_heldBy_40 : decode cX9_heldBy 40 = .ok (.iinc 3 1, 3) := by decide +kernel
theorem dX9_heldBy_43 : decode cX9_heldBy 43 = .ok (.goto (-39), 3) := by decide +kernel
theorem dX9_heldBy_46 : decode cX9_heldBy 46 = .ok (.iload_n 2, 1) := by decide +kernel
theorem dX9_heldBy_47 : decode cX9_heldBy 47 = .ok (.ireturn, 1) := by decide +kernel
set_option maxRecDepth 20000 in
theorem ggX9_heldBy_X9_has : GoodIn wsX9_heldBy wsX9_has := goodIn_r _ [5] (by decide +kernel) (by decide +kernel)
set_option maxRecDepth 20000 in
theorem gX9_heldBy_X9_has : GoodIn wsX9_heldBy (va_wsS RX9 59 yX9_has wsX9_has) := goodIn_app (goodIn_of _ (by decide +kernel)) ggX9_heldBy_X9_has
def rm_X9_heldBy : Room := { frames := 2, cells := 0, slots := 0, locals := 37 }
set_option maxHeartbeats 4000000 in
set_option maxRecDepth 100000 in
theorem c_X9_heldBy (l : Launch) {nb : Nat} {G : zG} {ad : Nat → Nat} {σ σ' : zs} {a1 : Int32} {r : Int32} (hf : f_X9_heldBy σ a1 = some (r, σ')) : zMi l yX9_heldBy wsX9_heldBy rm_X9_heldBy G (zS nb) ad σ [.ref (ad 65), .int a1] r σ' := by
  intro sz
  refine Met.ofW (cc := cX9_heldBy) (maxL := 4) (ret := (some .int)) (by decide) rfl ?_
  intro p e s m args below meth c s₁ B hml hv
  obtain ⟨rfl, hsz, hv⟩ := hv
  have hx := B.exec
  have hb := B.bytes
  have hr := B.returns
  have hts := atoms_spec (ws := wsX9_heldBy) B.pre
  have hown : s.vm.findClass RX9 = some m.cls := findClass_of_methodNamed B.named
  have hlocks := B.notSynchronized
  subst hsz
  have B := zB_start hv
  have hinRX9 : ∀ w ∈ wsX90, w ∈ wsX9_heldBy := by decide +kernel
  have hl := lv_entry ([.ref (ad 65), .int a1]) (n := 4) (Nat.le_of_ble_eq_true rfl)
  rw [lg_entry_eq]
  generalize (lg_sl ([.ref (ad 65), .int a1]) ++ List.replicate (4 - (lg_sl ([.ref (ad 65), .int a1])).length) Slot.unset).toArray = ls at hl ⊢
  have hl : lv_has ls 4 [(0, .ref (ad 65)), (1, .int a1)] := hl
  generalize hAe : zA ad (zS nb).length s.heap.size = A at B ⊢
  have L38 : ∀ (K4 : zs → Int32 → Int32 → Int32 → Option (Int32 × zs)) (hK4 : ∀ (σ : zs) (v1 : Int32) (v2 : Int32) (v3 : Int32) (H : Heap) (locs : List Loc) (ls : Array Slot), K4 σ v1 v2 v3 = some (r, σ') → zB A s G (zS nb) ad σ H locs → lv_has ls 4 [(0, .ref (ad 65)), (1, .int v1), (2, .int v2), (3, .int v3)] → W p l e (headSpec wsX9_heldBy rm_X9_heldBy).room s m ([.ref (ad 65), .int a1] : List Value).toArray below meth c H locs 0 0 (MQ below (va_Qi (fun r' (_ : Unit) => r' = r) (zPost G (zS nb) ad σ') A) ([.ref (ad 65), .int a1] : List Value).toArray s 0 0 A) (F0 m 4 ls [])) (σ : zs) (v1 : Int32) (v3 : Int32) (s0 : Int32) (s1 : Int32) (H : Heap) (locs : List Loc) (ls : Array Slot), f_X9_heldBy_38 K4 σ v1 v3 s0 s1 = some (r, σ') → zB A s G (zS nb) ad σ H locs → lv_has ls 4 [(0, .ref (ad 65)), (1, .int v1), (3, .int v3)] → W p l e (headSpec wsX9_heldBy rm_X9_heldBy).room s m ([.ref (ad 65), .int a1] : List Value).toArray below meth c H locs 0 0 (MQ below (va_Qi (fun r' (_ : Unit) => r' = r) (zPost G (zS nb) ad σ') A) ([.ref (ad 65), .int a1] : List Value).toArray s 0 0 A) (F0 m 38 ls [.int s0, .int s1]) := by
    intro K4 hK4 σ v1 v3 s0 s1 H locs ls hf B hl
    unfold f_X9_heldBy_38 at hf
    refine lv_ior hx hb dX9_heldBy_38 ?_
    refine lv_istore_n (lv' := [(2, .int (s1 ||| s0)), (0, .ref (ad 65)), (1, .int v1), (3, .int v3)]) hx hb dX9_heldBy_39 rfl hl (by decide) rfl (fun ls hl => ?_)
    refine lv_iinc (v := (v3 + (1 : Int32))) (lv' := [(3, .int (v3 + (1 : Int32))), (2, .int (s1 ||| s0)), (0, .ref (ad 65)), (1, .int v1)]) hx hb dX9_heldBy_40 hl (k := 3) rfl (zc1 (by decide)) (by decide) rfl (fun ls hl => ?_)
    refine lv_goto (tgt := 4) hx hb dX9_heldBy_43 (by decide) ?_
    exact hK4 _ _ _ _ _ _ _ hf B (lv_sub hl [2, 3, 1, 0] rfl)
  have L4 : ∀ (n : Nat) (σ : zs) (v1 : Int32) (v2 : Int32) (v3 : Int32) (H : Heap) (locs : List Loc) (ls : Array Slot), zlp3 (f_X9_heldBy_4) n σ v1 v2 v3 = some (r, σ') → zB A s G (zS nb) ad σ H locs → lv_has ls 4 [(0, .ref (ad 65)), (1, .int v1), (2, .int v2), (3, .int v3)] → W p l e (headSpec wsX9_heldBy rm_X9_heldBy).room s m ([.ref (ad 65), .int a1] : List Value).toArray below meth c H locs 0 0 (MQ below (va_Qi (fun r' (_ : Unit) => r' = r) (zPost G (zS nb) ad σ') A) ([.ref (ad 65), .int a1] : List Value).toArray s 0 0 A) (F0 m 4 ls []) := by
    intro n
    induction n with
    | zero =>
      intro σ v1 v2 v3 H locs ls hf
      cases hf
    | succ n ih =>
      intro σ v1 v2 v3 H locs ls hf B hl
      have hf : f_X9_heldBy_4 (zlp3 (f_X9_heldBy_4) n) σ v1 v2 v3 = some (r, σ') := hf
      unfold f_X9_heldBy_4 at hf
      refine lv_iload_n hx hb dX9_heldBy_4 rfl (lv_at hl 3 rfl) ?_
      refine lv_aload_n hx hb dX9_heldBy_5 rfl (lv_at hl 0 rfl) ?_
      refine z_getr hx hb hts hinRX9 hown B 65 0 66 rfl rfl rfl (by decide) (by decide +kernel) rfl dX9_heldBy_6 ?_
      refine lv_iconst (v := (1 : Int32)) hx hb dX9_heldBy_9 (by decide) ?_
      obtain ⟨hg, hf⟩ := zg_some hf
      refine z_iald hx hb B 66 rfl (zin_ok hg) dX9_heldBy_10 ?_
      refine lv_icmp_ge (tgt := 46) hx hb dX9_heldBy_11 (by decide) (fun hc => ?_) (fun hc => ?_)
      · have hf := zif_t hc hf
        refine lv_iload_n hx hb dX9_heldBy_46 rfl (lv_at hl 2 rfl) ?_
        refine W.widen (k := 0) (n := 0) (Nat.le_of_ble_eq_true rfl) (Nat.le_of_ble_eq_true rfl) ?_
        exact z_iret hx hb hr rfl hlocks B hf dX9_heldBy_47
      · have hf := zif_f hc hf
        refine lv_iload_n hx hb dX9_heldBy_14 rfl (lv_at hl 2 rfl) ?_
        refine lv_aload_n hx hb dX9_heldBy_15 rfl (lv_at hl 0 rfl) ?_
        refine z_getr hx hb hts hinRX9 hown B 65 0 66 rfl rfl rfl (by decide) (by decide +kernel) rfl dX9_heldBy_16 ?_
        refine lv_bipush (v := (107 : Int32)) hx hb dX9_heldBy_19 (by decide) ?_
        refine lv_iload_n hx hb dX9_heldBy_21 rfl (lv_at hl 3 rfl) ?_
        refine lv_iadd hx hb dX9_heldBy_22 ?_
        obtain ⟨hg, hf⟩ := zg_some hf
        refine z_iald hx hb B 66 rfl (zin_ok hg) dX9_heldBy_23 ?_
        refine lv_iload_n hx hb dX9_heldBy_24 rfl (lv_at hl 1 rfl) ?_
        obtain ⟨r2, σ3, hu1, hf⟩ := zb_some hf
        refine z_i B (va_runS (As := [.int (σ 66 ((107 : Int32) + v3).toNatClampNeg), .int v1]) (rest := [.int v2]) ⟨hx, hb, hml, hown, hts⟩ (c_X9_has l hu1 _) (va_cwS 2 hts gX9_heldBy_X9_has rfl rfl rfl (by decide +kernel) ⟨Nat.le_of_ble_eq_true rfl, Nat.le_of_ble_eq_true rfl⟩) (z_preS B) rfl rfl hl.1 rfl (lv_room (Nat.le_of_ble_eq_true rfl)) dX9_heldBy_25 ⟨Nat.le_of_ble_eq_true rfl, Nat.le_of_ble_eq_true rfl⟩) (fun H locs B => ?_)
        refine lv_if_eq (tgt := 37) hx hb dX9_heldBy_28 (by decide) (fun hc => ?_) (fun hc => ?_)
        · have hf := zif_t hc hf
          refine lv_iconst (v := (0 : Int32)) hx hb dX9_heldBy_37 (by decide) ?_
          exact L38 _ ih  _ _ _ _ _ _ _ _ hf B (lv_sub hl [0, 1, 3] rfl)
        · have hf := zif_f hc hf
          refine lv_iconst (v := (1 : Int32)) hx hb dX9_heldBy_31 (by decide) ?_
          refine lv_iload_n hx hb dX9_heldBy_32 rfl (lv_at hl 3 rfl) ?_
          refine lv_ishl hx hb dX9_heldBy_33 ?_
          refine lv_goto (tgt := 38) hx hb dX9_heldBy_34 (by decide) ?_
          exact L38 _ ih  _ _ _ _ _ _ _ _ hf B (lv_sub hl [0, 1, 3] rfl)
  unfold f_X9_heldBy at hf
  refine lv_iconst (v := (0 : Int32)) hx hb dX9_heldBy_0 (by decide) ?_
  refine lv_istore_n (lv' := [(2, .int (0 : Int32)), (0, .ref (ad 65)), (1, .int a1)]) hx hb dX9_heldBy_1 rfl hl (by decide) rfl (fun ls hl => ?_)
  refine lv_iconst (v := (0 : Int32)) hx hb dX9_heldBy_2 (by decide) ?_
  refine lv_istore_n (lv' := [(3, .int (0 : Int32)), (2, .int (0 : Int32)), (0, .ref (ad 65)), (1, .int a1)]) hx hb dX9_heldBy_3 rfl hl (by decide) rfl (fun ls hl => ?_)
  exact L4  _ _ _ _ _ _ _ _ hf B (lv_sub hl [2, 3, 1, 0] rfl)
theorem dX9_held_0 : decode cX9_held 0 = .ok (.aload_n 0, 1) := by decide +kernel
theorem dX9_held_1 : decode cX9_held 1 = .ok (.iload_n 1, 1) := by decide +kernel
theorem dX9_held_2 : decode cX9_held 2 = .ok (.invokestatic 78, 3) := by decide +kernel
theorem dX9_held_5 : decode cX9_held 5 = .ok (.ifCond .eq 7, 3) := by decide +kernel
theorem dX9_held_8 : decode cX9_held 8 = .ok (.iconst 0, 1) := by decide +kernel
theorem dX9_held_9 : decode cX9_held 9 = .ok (.goto 4, 3) := by decide +kernel
theorem dX9_held_12 : decode cX9_held 12 = .ok (.iconst 1, 1) := by decide +kernel
theorem dX9_held_13 : decode cX9_held 13 = .ok (.putfield 41, 3) := by decide +kernel
theorem dX9_held_16 : decode cX9_held 16 = .ok (.aload_n 0, 1) := by decide +kernel
theorem dX9_held_17 : decode cX9_held 17 = .ok (.getfield 41, 3) := by decide +kernel
theorem dX9_held_20 : decode cX9_held 20 = .ok (.ifCond .ne 11, 3) := by decide +kernel
theorem dX9_held_23 : decode cX9_held 23 = .ok (.aload_n 0, 1) := by decide +kernel
theorem dX9_held_24 : decode cX9_held 24 = .ok (.iload_n 1, 1) := by decide +kernel
theorem dX9_held_25 : decode cX9_held 25 = .ok (.invokevirtual 184, 3) := by decide +kernel
theorem dX9_held_28 : decode cX9_held 28 = .ok (.goto 4, 3) := by decide +kernel
theorem dX9_held_31 : decode cX9_held 31 = .ok (.iconst 0, 1) := by decide +kernel
theorem dX9_held_32 : decode cX9_held 32 = .ok (.ireturn, 1) := by decide +kernel
set_option maxRecDepth 20000 in
theorem ggX9_held_X9_isSubject : GoodIn wsX9_held wsX9_isSubject := goodIn_r _ [5, 6, 7, 4, 8] (by decide +kernel) (by decide +kernel)
set_option maxRecDepth 20000 in
theorem gX9_held_X9_isSubject : GoodIn wsX9_held (va_wsS RX9 78 yX9_isSubject wsX9_isSubject) := goodIn_app (goodIn_of _ (by decide +kernel)) ggX9_held_X9_isSubject
set_option maxRecDepth 20000 in
theorem ggX9_held_X9_heldBy : GoodIn wsX9_held wsX9_heldBy := goodIn_ca (goodIn_r _ [12, 13, 14, 15, 4, 16, 17, 18, 19, 20, 21, 22, 23, 24, 25, 26, 27, 28, 29, 30, 31, 32, 33, 34, 35, 36] (by decide +kernel) (by decide +kernel)) (goodIn_sub (fun _ h => List.mem_cons_of_mem _ (List.mem_append_right _ h)) (by decide +kernel))
set_option maxRecDepth 20000 in
theorem gX9_held_X9_heldBy : GoodIn wsX9_held (wsV RX9 184 RX9 yX9_heldBy wsX9_heldBy) := goodIn_app (goodIn_of _ (by decide +kernel)) ggX9_held_X9_heldBy
def rm_X9_held : Room := { frames := 3, cells := 0, slots := 0, locals := 60 }
set_option maxHeartbeats 4000000 in
set_option maxRecDepth 100000 in
theorem c_X9_held (l : Launch) {nb : Nat} {G : zG} {ad : Nat → Nat} {σ σ' : zs} {a1 : Int32} {r : Int32} (hf : f_X9_held σ a1 = some (r, σ')) : zMi l yX9_held wsX9_held rm_X9_held G (zS nb) ad σ [.ref (ad 65), .int a1] r σ' := by
  intro sz
  refine Met.ofW (cc := cX9_held) (maxL := 2) (ret := (some .int)) (by decide) rfl ?_
  intro p e s m args below meth c s₁ B hml hv
  obtain ⟨rfl, hsz, hv⟩ := hv
  have hx := B.exec
  have hb := B.bytes
  have hr := B.returns
  have hts := atoms_spec (ws := wsX9_held) B.pre
  have hown : s.vm.findClass RX9 = some m.cls := findClass_of_methodNamed B.named
  have hlocks := B.notSynchronized
  subst hsz
  have B := zB_start hv
  have hinRX9 : ∀ w ∈ wsX90, w ∈ wsX9_held := by decide +kernel
  have hl := lv_entry ([.ref (ad 65), .int a1]) (n := 2) (Nat.le_of_ble_eq_true rfl)
  rw [lg_entry_eq]
  generalize (lg_sl ([.ref (ad 65), .int a1]) ++ List.replicate (2 - (lg_sl ([.ref (ad 65), .int a1])).length) Slot.unset).toArray = ls at hl ⊢
  have hl : lv_has ls 2 [(0, .ref (ad 65)), (1, .int a1)] := hl
  generalize hAe : zA ad (zS nb).length s.heap.size = A at B ⊢
  have L13 : ∀ (σ : zs) (v1 : Int32) (s0 : Int32) (H : Heap) (locs : List Loc) (ls : Array Slot), f_X9_held_13 σ v1 s0 = some (r, σ') → zB A s G (zS nb) ad σ H locs → lv_has ls 2 [(0, .ref (ad 65)), (1, .int v1)] → W p l e (headSpec wsX9_held rm_X9_held).room s m ([.ref (ad 65), .int a1] : List Value).toArray below meth c H locs 0 0 (MQ below (va_Qi (fun r' (_ : Unit) => r' = r) (zPost G (zS nb) ad σ') A) ([.ref (ad 65), .int a1] : List Value).toArray s 0 0 A) (F0 m 13 ls [.int s0, .ref (ad 65)]) := by
    intro σ v1 s0 H locs ls hf B hl
    unfold f_X9_held_13 at hf
    refine z_puti hx hb hts hinRX9 hown tyX9 tyX9_ok nmX9 B 65 3 rfl rfl rfl (by decide) (by decide +kernel) rfl rfl rfl rfl dX9_held_13 (fun H locs B => ?_)
    refine lv_aload_n hx hb dX9_held_16 rfl (lv_at hl 0 rfl) ?_
    refine z_geti hx hb hts hinRX9 hown B 65 3 rfl rfl rfl (by decide) (by decide +kernel) rfl dX9_held_17 ?_
    refine lv_if_ne (tgt := 31) hx hb dX9_held_20 (by decide) (fun hc => ?_) (fun hc => ?_)
    · have hf := zif_f hc hf
      refine lv_iconst (v := (0 : Int32)) hx hb dX9_held_31 (by decide) ?_
      refine W.widen (k := 0) (n := 0) (Nat.le_of_ble_eq_true rfl) (Nat.le_of_ble_eq_true rfl) ?_
      exact z_iret hx hb hr rfl hlocks B hf dX9_held_32
    · have hf := zif_t hc hf
      refine lv_aload_n hx hb dX9_held_23 rfl (lv_at hl 0 rfl) ?_
      refine lv_iload_n hx hb dX9_held_24 rfl (lv_at hl 1 rfl) ?_
      obtain ⟨r5, σ6, hu4, hf⟩ := zb_some hf
      refine z_i B (va_runV (As := [.int v1]) (rest := []) ⟨hx, hb, hml, hown, hts⟩ (c_X9_heldBy l hu4 _) (cwV 1 hts gX9_held_X9_heldBy rfl rfl rfl (by decide +kernel) ⟨Nat.le_of_ble_eq_true rfl, Nat.le_of_ble_eq_true rfl⟩) (z_preV B rfl rfl) rfl rfl hl.1 rfl (lv_room (Nat.le_of_ble_eq_true rfl)) dX9_held_25 ⟨Nat.le_of_ble_eq_true rfl, Nat.le_of_ble_eq_true rfl⟩) (fun H locs B => ?_)
      refine lv_goto (tgt := 32) hx hb dX9_held_28 (by decide) ?_
      refine W.widen (k := 0) (n := 0) (Nat.le_of_ble_eq_true rfl) (Nat.le_of_ble_eq_true rfl) ?_
      exact z_iret hx hb hr rfl hlocks B hf dX9_held_32
  unfold f_X9_held at hf
  refine lv_aload_n hx hb dX9_held_0 rfl (lv_at hl 0 rfl) ?_
  refine lv_iload_n hx hb dX9_held_1 rfl (lv_at hl 1 rfl) ?_
  obtain ⟨r2, σ3, hu1, hf⟩ := zb_some hf
  refine z_i B (va_runS (As := [.int a1]) (rest := [.ref (ad 65)]) ⟨hx, hb, hml, hown, hts⟩ (c_X9_isSubject l hu1 _) (va_cwS 1 hts gX9_held_X9_isSubject rfl rfl rfl (by decide +kernel) ⟨Nat.le_of_ble_eq_true rfl, Nat.le_of_ble_eq_true rfl⟩) (z_preS B) rfl rfl hl.1 rfl (lv_room (Nat.le_of_ble_eq_true rfl)) dX9_held_2 ⟨Nat.le_of_ble_eq_true rfl, Nat.le_of_ble_eq_true rfl⟩) (fun H locs B => ?_)
  refine lv_if_eq (tgt := 12) hx hb dX9_held_5 (by decide) (fun hc => ?_) (fun hc => ?_)
  · have hf := zif_t hc hf
    refine lv_iconst (v := (1 : Int32)) hx hb dX9_held_12 (by decide) ?_
    exact L13  _ _ _ _ _ _ hf B (lv_sub hl [0, 1] rfl)
  · have hf := zif_f hc hf
    refine lv_iconst (v := (0 : Int32)) hx hb dX9_held_8 (by decide) ?_
    refine lv_goto (tgt := 13) hx hb dX9_held_9 (by decide) ?_
    exact L13  _ _ _ _ _ _ hf B (lv_sub hl [0, 1] rfl)
theorem dX9_below_0 : decode cX9_below 0 = .ok (.aload_n 0, 1) := by decide +kernel
theorem dX9_below_1 : decode cX9_below 1 = .ok (.aload_n 0, 1) := by decide +kernel
theorem dX9_below_2 : decode cX9_below 2 = .ok (.iload_n 1, 1) := by decide +kernel
theorem dX9_below_3 : decode cX9_below 3 = .ok (.invokevirtual 118, 3) := by decide +kernel
theorem dX9_below_6 : decode cX9_below 6 = .ok (.ifCond .eq 7, 3) := by decide +kernel
theorem dX9_below_9 : decode cX9_below 9 = .ok (.iconst 0, 1) := by decide +kernel
theorem dX9_below_10 : decode cX9_below 10 = .ok (.goto 4, 3) := by decide +kernel
theorem dX9_below_13 : decode cX9_below 13 = .ok (.iconst 1, 1) := by decide +kernel
theorem dX9_below_14 : decode cX9_below 14 = .ok (.putfield 41, 3) := by decide +kernel
theorem dX9_below_17 : decode cX9_below 17 = .ok (.iconst 0, 1) := by decide +kernel
theorem dX9_below_18 : decode cX9_below 18 = .ok (.istore_n 2, 1) := by decide +kernel
theorem dX9_below_19 : decode cX9_below 19 = .ok (.iconst 0, 1) := by decide +kernel
theorem dX9_below_20 : decode cX9_below 20 = .ok (.istore_n 3, 1) := by decide +kernel
theorem dX9_below_21 : decode cX9_below 21 = .ok (.aload_n 0, 1) := by decide +kernel
theorem dX9_below_22 : decode cX9_below 22 = .ok (.getfield 41, 3) := by decide +kernel
theorem dX9_below_25 : decode cX9_below 25 = .ok (.ifCond .ne 38, 3) := by decide +kernel
theorem dX9_below_28 : decode cX9_below 28 = .ok (.iload_n 3, 1) := by decide +kernel
theorem dX9_below_29 : decode cX9_below 29 = .ok (.aload_n 0, 1) := by decide +kernel
theorem dX9_below_30 : decode cX9_below 30 = .ok (.getfield 9, 3) := by decide +kernel
theorem dX9_below_33 : decode cX9_below 33 = .ok (.iconst 1, 1) := by decide +kernel
theorem dX9_below_34 : decode cX9_below 34 = .ok (.iaload, 1) := by decide +kernel
theorem dX9_below_35 : decode cX9_below 35 = .ok (.if_icmp .ge 28, 3) := by decide +kernel
theorem dX9_below_38 : decode cX9_below 38 = .ok (.iload_n 2, 1) := by decide +kernel
theorem dX9_below_39 : decode cX9_below 39 = .ok (.aload_n 0, 1) := by decide +kernel
theorem dX9_below_40 : decode cX9_below 40 = .ok (.iload_n 3, 1) := by decide +kernel
theorem dX9_below_41 : decode cX9_below 41 = .ok (.iload_n 1, 1) := by decide +kernel
theorem dX9_below_42 : decode cX9_below 42 = .ok (.invokevirtual 131, 3) := by decide +kernel
theorem dX9_below_45 : decode cX9_below 45 = .ok (.ifCond .eq 9, 3) := by decide +kernel
theorem dX9_below_48 : decode cX9_below 48 = .ok (.iconst 1, 1) := by decide +kernel
theorem dX9_below_49 : decode cX9_below 49 = .ok (.iload_n 3, 1) := by decide +kernel
theorem dX9_below_50 : decode cX9_below 50 = .ok (.ishl, 1) := by decide +kernel
theorem dX9_below_51 : decode cX9_below 51 = .ok (.goto 4, 3) := by decide +kernel
theorem dX9_below_54 : decode cX9_below 54 = .ok (.iconst 0, 1) := by decide +kernel
theorem dX9_below_55 : decode cX9_below 55 = .ok (.ior, 1) := by decide +kernel
theorem dX9_below_56 : decode cX9_below 56 = .ok (.istore_n 2, 1) := by decide +kernel
theorem dX9_below_57 : decode cX9_below 57 = .ok (.iinc 3 1, 3) := by decide +kernel
theorem dX9_below_60 : decode cX9_below 60 = .ok (.goto (-39), 3) := by decide +kernel
theorem dX9_below_63 : decode cX9_below 63 = .ok (.iload_n 2, 1) := by decide +kernel
theorem dX9_below_64 : decode cX9_below 64 = .ok (.ireturn, 1) := by decide +kernel
set_option maxRecDepth 20000 in
theorem ggX9_below_X9_isToken : GoodIn wsX9_below wsX9_isToken := goodIn_ca (goodIn_r _ [7, 2, 8, 9, 6, 10, 15, 16, 17, 18, 19, 20, 21, 22, 23, 24, 25, 26, 27, 28, 29, 30, 31, 32, 33, 34] (by decide +kernel) (by decide +kernel)) (goodIn_sub (fun _ h => List.mem_cons_of_mem _ (List.mem_append_right _ h)) (by decide +kernel))
set_option maxRecDepth 20000 in
theorem gX9_below_X9_isToken : GoodIn wsX9_below (wsV RX9 118 RX9 yX9_isToken wsX9_isToken) := goodIn_app (goodIn_of _ (by decide +kernel)) ggX9_below_X9_isToken
set_option maxRecDepth 20000 in
theorem ggX9_below_X9_isBelow : GoodIn wsX9_below wsX9_isBelow := goodIn_ca (goodIn_r _ [14, 2, 15, 16, 17, 18, 19, 20, 21, 22, 23, 24, 25, 26, 27, 28, 29, 30, 31, 32, 33, 34] (by decide +kernel) (by decide +kernel)) (goodIn_sub (fun _ h => List.mem_cons_of_mem _ (List.mem_append_right _ h)) (by decide +kernel))
set_option maxRecDepth 20000 in
theorem gX9_below_X9_isBelow : GoodIn wsX9_below (wsV RX9 131 RX9 yX9_isBelow wsX9_isBelow) := goodIn_app (goodIn_of _ (by decide +kernel)) ggX9_below_X9_isBelow
def rm_X9_below : Room := { frames := 3, cells := 0, slots := 0, locals := 59 }
set_option maxHeartbeats 4000000 in
set_option maxRecDepth 100000 in
theorem c_X9_below (l : Launch) {nb : Nat} {G : zG} {ad : Nat → Nat} {σ σ' : zs} {a1 : Int32} {r : Int32} (hf : f_X9_below σ a1 = some (r, σ')) : zMi l yX9_below wsX9_below rm_X9_below G (zS nb) ad σ [.ref (ad 65), .int a1] r σ' := by
  intro sz
  refine Met.ofW (cc := cX9_below) (maxL := 4) (ret := (some .int)) (by decide) rfl ?_
  intro p e s m args below meth c s₁ B hml hv
  obtain ⟨rfl, hsz, hv⟩ := hv
  have hx := B.exec
  have hb := B.bytes
  have hr := B.returns
  have hts := atoms_spec (ws := wsX9_below) B.pre
  have hown : s.vm.findClass RX9 = some m.cls := findClass_of_methodNamed B.named
  have hlocks := B.notSynchronized
  subst hsz
  have B := zB_start hv
  have hinRX9 : ∀ w ∈ wsX90, w ∈ wsX9_below := by decide +kernel
  have hl := lv_entry ([.ref (ad 65), .int a1]) (n := 4) (Nat.le_of_ble_eq_true rfl)
  rw [lg_entry_eq]
  generalize (lg_sl ([.ref (ad 65), .int a1]) ++ List.replicate (4 - (lg_sl ([.ref (ad 65), .int a1])).length) Slot.unset).toArray = ls at hl ⊢
  have hl : lv_has ls 4 [(0, .ref (ad 65)), (1, .int a1)] := hl
  generalize hAe : zA ad (zS nb).length s.heap.size = A at B ⊢
  have L55 : ∀ (K21 : zs → Int32 → Int32 → Int32 → Option (Int32 × zs)) (hK21 : ∀ (σ : zs) (v1 : Int32) (v2 : Int32) (v3 : Int32) (H : Heap) (locs : List Loc) (ls : Array Slot), K21 σ v1 v2 v3 = some (r, σ') → zB A s G (zS nb) ad σ H locs → lv_has ls 4 [(0, .ref (ad 65)), (1, .int v1), (2, .int v2), (3, .int v3)] → W p l e (headSpec wsX9_below rm_X9_below).room s m ([.ref (ad 65), .int a1] : List Value).toArray below meth c H locs 0 0 (MQ below (va_Qi (fun r' (_ : Unit) => r' = r) (zPost G (zS nb) ad σ') A) ([.ref (ad 65), .int a1] : List Value).toArray s 0 0 A) (F0 m 21 ls [])) (σ : zs) (v1 : Int32) (v3 : Int32) (s0 : Int32) (s1 : Int32) (H : Heap) (locs : List Loc) (ls : Array Slot), f_X9_below_55 K21 σ v1 v3 s0 s1 = some (r, σ') → zB A s G (zS nb) ad σ H locs → lv_has ls 4 [(0, .ref (ad 65)), (1, .int v1), (3, .int v3)] → W p l e (headSpec wsX9_below rm_X9_below).room s m ([.ref (ad 65), .int a1] : List Value).toArray below meth c H locs 0 0 (MQ below (va_Qi (fun r' (_ : Unit) => r' = r) (zPost G (zS nb) ad σ') A) ([.ref (ad 65), .int a1] : List Value).toArray s 0 0 A) (F0 m 55 ls [.int s0, .int s1]) := by
    intro K21 hK21 σ v1 v3 s0 s1 H locs ls hf B hl
    unfold f_X9_below_55 at hf
    refine lv_ior hx hb dX9_below_55 ?_
    refine lv_istore_n (lv' := [(2, .int (s1 ||| s0)), (0, .ref (ad 65)), (1, .int v1), (3, .int v3)]) hx hb dX9_below_56 rfl hl (by decide) rfl (fun ls hl => ?_)
    refine lv_iinc (v := (v3 + (1 : Int32))) (lv' := [(3, .int (v3 + (1 : Int32))), (2, .int (s1 ||| s0)), (0, .ref (ad 65)), (1, .int v1)]) hx hb dX9_below_57 hl (k := 3) rfl (zc1 (by decide)) (by decide) rfl (fun ls hl => ?_)
    refine lv_goto (tgt := 21) hx hb dX9_below_60 (by decide) ?_
    exact hK21 _ _ _ _ _ _ _ hf B (lv_sub hl [2, 3, 1, 0] rfl)
  have L21 : ∀ (n : Nat) (σ : zs) (v1 : Int32) (v2 : Int32) (v3 : Int32) (H : Heap) (locs : List Loc) (ls : Array Slot), zlp3 (f_X9_below_21) n σ v1 v2 v3 = some (r, σ') → zB A s G (zS nb) ad σ H locs → lv_has ls 4 [(0, .ref (ad 65)), (1, .int v1), (2, .int v2), (3, .int v3)] → W p l e (headSpec wsX9_below rm_X9_below).room s m ([.ref (ad 65), .int a1] : List Value).toArray below meth c H locs 0 0 (MQ below (va_Qi (fun r' (_ : Unit) => r' = r) (zPost G (zS nb) ad σ') A) ([.ref (ad 65), .int a1] : List Value).toArray s 0 0 A) (F0 m 21 ls []) := by
    intro n
    induction n with
    | zero =>
      intro σ v1 v2 v3 H locs ls hf
      cases hf
    | succ n ih =>
      intro σ v1 v2 v3 H locs ls hf B hl
      have hf : f_X9_below_21 (zlp3 (f_X9_below_21) n) σ v1 v2 v3 = some (r, σ') := hf
      unfold f_X9_below_21 at hf
      refine lv_aload_n hx hb dX9_below_21 rfl (lv_at hl 0 rfl) ?_
      refine z_geti hx hb hts hinRX9 hown B 65 3 rfl rfl rfl (by decide) (by decide +kernel) rfl dX9_below_22 ?_
      refine lv_if_ne (tgt := 63) hx hb dX9_below_25 (by decide) (fun hc => ?_) (fun hc => ?_)
      · have hf := zif_f hc hf
        refine lv_iload_n hx hb dX9_below_63 rfl (lv_at hl 2 rfl) ?_
        refine W.widen (k := 0) (n := 0) (Nat.le_of_ble_eq_true rfl) (Nat.le_of_ble_eq_true rfl) ?_
        exact z_iret hx hb hr rfl hlocks B hf dX9_below_64
      · have hf := zif_t hc hf
        refine lv_iload_n hx hb dX9_below_28 rfl (lv_at hl 3 rfl) ?_
        refine lv_aload_n hx hb dX9_below_29 rfl (lv_at hl 0 rfl) ?_
        refine z_getr hx hb hts hinRX9 hown B 65 0 66 rfl rfl rfl (by decide) (by decide +kernel) rfl dX9_below_30 ?_
        refine lv_iconst (v := (1 : Int32)) hx hb dX9_below_33 (by decide) ?_
        obtain ⟨hg, hf⟩ := zg_some hf
        refine z_iald hx hb B 66 rfl (zin_ok hg) dX9_below_34 ?_
        refine lv_icmp_ge (tgt := 63) hx hb dX9_below_35 (by decide) (fun hc => ?_) (fun hc => ?_)
        · have hf := zif_t hc hf
          refine lv_iload_n hx hb dX9_below_63 rfl (lv_at hl 2 rfl) ?_
          refine W.widen (k := 0) (n := 0) (Nat.le_of_ble_eq_true rfl) (Nat.le_of_ble_eq_true rfl) ?_
          exact z_iret hx hb hr rfl hlocks B hf dX9_below_64
        · have hf := zif_f hc hf
          refine lv_iload_n hx hb dX9_below_38 rfl (lv_at hl 2 rfl) ?_
          refine lv_aload_n hx hb dX9_below_39 rfl (lv_at hl 0 rfl) ?_
          refine lv_iload_n hx hb dX9_below_40 rfl (lv_at hl 3 rfl) ?_
          refine lv_iload_n hx hb dX9_below_41 rfl (lv_at hl 1 rfl) ?_
          obtain ⟨r5, σ6, hu4, hf⟩ := zb_some hf
          refine z_i B (va_runV (As := [.int v3, .int v1]) (rest := [.int v2]) ⟨hx, hb, hml, hown, hts⟩ (c_X9_isBelow l hu4 _) (cwV 2 hts gX9_below_X9_isBelow rfl rfl rfl (by decide +kernel) ⟨Nat.le_of_ble_eq_true rfl, Nat.le_of_ble_eq_true rfl⟩) (z_preV B rfl rfl) rfl rfl hl.1 rfl (lv_room (Nat.le_of_ble_eq_true rfl)) dX9_below_42 ⟨Nat.le_of_ble_eq_true rfl, Nat.le_of_ble_eq_true rfl⟩) (fun H locs B => ?_)
          refine lv_if_eq (tgt := 54) hx hb dX9_below_45 (by decide) (fun hc => ?_) (fun hc => ?_)
          · have hf := zif_t hc hf
            refine lv_iconst (v := (0 : Int32)) hx hb dX9_below_54 (by decide) ?_
            exact L55 _ ih  _ _ _ _ _ _ _ _ hf B (lv_sub hl [0, 1, 3] rfl)
          · have hf := zif_f hc hf
            refine lv_iconst (v := (1 : Int32)) hx hb dX9_below_48 (by decide) ?_
            refine lv_iload_n hx hb dX9_below_49 rfl (lv_at hl 3 rfl) ?_
            refine lv_ishl hx hb dX9_below_50 ?_
            refine lv_goto (tgt := 55) hx hb dX9_below_51 (by decide) ?_
            exact L55 _ ih  _ _ _ _ _ _ _ _ hf B (lv_sub hl [0, 1, 3] rfl)
  have L14 : ∀ (σ : zs) (v1 : Int32) (s0 : Int32) (H : Heap) (locs : List Loc) (ls : Array Slot), f_X9_below_14 σ v1 s0 = some (r, σ') → zB A s G (zS nb) ad σ H locs → lv_has ls 4 [(0, .ref (ad 65)), (1, .int v1)] → W p l e (headSpec wsX9_below rm_X9_below).room s m ([.ref (ad 65), .int a1] : List Value).toArray below meth c H locs 0 0 (MQ below (va_Qi (fun r' (_ : Unit) => r' = r) (zPost G (zS nb) ad σ') A) ([.ref (ad 65), .int a1] : List Value).toArray s 0 0 A) (F0 m 14 ls [.int s0, .ref (ad 65)]) := by
    intro σ v1 s0 H locs ls hf B hl
    unfold f_X9_below_14 at hf
    refine z_puti hx hb hts hinRX9 hown tyX9 tyX9_ok nmX9 B 65 3 rfl rfl rfl (by decide) (by decide +kernel) rfl rfl rfl rfl dX9_below_14 (fun H locs B => ?_)
    refine lv_iconst (v := (0 : Int32)) hx hb dX9_below_17 (by decide) ?_
    refine lv_istore_n (lv' := [(2, .int (0 : Int32)), (0, .ref (ad 65)), (1, .int v1)]) hx hb dX9_below_18 rfl hl (by decide) rfl (fun ls hl => ?_)
    refine lv_iconst (v := (0 : Int32)) hx hb dX9_below_19 (by decide) ?_
    refine lv_istore_n (lv' := [(3, .int (0 : Int32)), (2, .int (0 : Int32)), (0, .ref (ad 65)), (1, .int v1)]) hx hb dX9_below_20 rfl hl (by decide) rfl (fun ls hl => ?_)
    exact L21  _ _ _ _ _ _ _ _ hf B (lv_sub hl [2, 3, 1, 0] rfl)
  unfold f_X9_below at hf
  refine lv_aload_n hx hb dX9_below_0 rfl (lv_at hl 0 rfl) ?_
  refine lv_aload_n hx hb dX9_below_1 rfl (lv_at hl 0 rfl) ?_
  refine lv_iload_n hx hb dX9_below_2 rfl (lv_at hl 1 rfl) ?_
  obtain ⟨r2, σ3, hu1, hf⟩ := zb_some hf
  refine z_i B (va_runV (As := [.int a1]) (rest := [.ref (ad 65)]) ⟨hx, hb, hml, hown, hts⟩ (c_X9_isToken l hu1 _) (cwV 1 hts gX9_below_X9_isToken rfl rfl rfl (by decide +kernel) ⟨Nat.le_of_ble_eq_true rfl, Nat.le_of_ble_eq_true rfl⟩) (z_preV B rfl rfl) rfl rfl hl.1 rfl (lv_room (Nat.le_of_ble_eq_true rfl)) dX9_below_3 ⟨Nat.le_of_ble_eq_true rfl, Nat.le_of_ble_eq_true rfl⟩) (fun H locs B => ?_)
  refine lv_if_eq (tgt := 13) hx hb dX9_below_6 (by decide) (fun hc => ?_) (fun hc => ?_)
  · have hf := zif_t hc hf
    refine lv_iconst (v := (1 : Int32)) hx hb dX9_below_13 (by decide) ?_
    exact L14  _ _ _ _ _ _ hf B (lv_sub hl [0, 1] rfl)
  · have hf := zif_f hc hf
    refine lv_iconst (v := (0 : Int32)) hx hb dX9_below_9 (by decide) ?_
    refine lv_goto (tgt := 14) hx hb dX9_below_10 (by decide) ?_
    exact L14  _ _ _ _ _ _ hf B (lv_sub hl [0, 1] rfl)
theorem dX9_isAhead_0 : decode cX9_isAhead 0 = .ok (.aload_n 0, 1) := by decide +kernel
theorem dX9_isAhead_1 : decode cX9_isAhead 1 = .ok (.getfield 9, 3) := by decide +kernel
theorem dX9_isAhead_4 : decode cX9_isAhead 4 = .ok (.bipush 51, 2) := by decide +kernel
theorem dX9_isAhead_6 : decode cX9_isAhead 6 = .ok (.iload_n 1, 1) := by decide +kernel
theorem dX9_isAhead_7 : decode cX9_isAhead 7 = .ok (.iadd, 1) := by decide +kernel
theorem dX9_isAhead_8 : decode cX9_isAhead 8 = .ok (.iaload, 1) := by decide +kernel
theorem dX9_isAhead_9 : decode cX9_isAhead 9 = .ok (.aload_n 0, 1) := by decide +kernel
theorem dX9_isAhead_10 : decode cX9_isAhead 10 = .ok (.getfield 9, 3) := by decide +kernel
theorem dX9_isAhead_13 : decode cX9_isAhead 13 = .ok (.bipush 51, 2) := by decide +kernel
theorem dX9_isAhead_15 : decode cX9_isAhead 15 = .ok (.iload_n 2, 1) := by decide +kernel
theorem dX9_isAhead_16 : decode cX9_isAhead 16 = .ok (.iadd, 1) := by decide +kernel
theorem dX9_isAhead_17 : decode cX9_isAhead 17 = .ok (.iaload, 1) := by decide +kernel
theorem dX9_isAhead_18 : decode cX9_isAhead 18 = .ok (.if_icmp .eq 30, 3) := by decide +kernel
theorem dX9_isAhead_21 : decode cX9_isAhead 21 = .ok (.aload_n 0, 1) := by decide +kernel
theorem dX9_isAhead_22 : decode cX9_isAhead 22 = .ok (.getfield 9, 3) := by decide +kernel
theorem dX9_isAhead_25 : decode cX9_isAhead 25 = .ok (.bipush 51, 2) := by decide +kernel
theorem dX9_isAhead_27 : decode cX9_isAhead 27 = .ok (.iload_n 1, 1) := by decide +kernel
theorem dX9_isAhead_28 : decode cX9_isAhead 28 = .ok (.iadd, 1) := by decide +kernel
theorem dX9_isAhead_29 : decode cX9_isAhead 29 = .ok (.iaload, 1) := by decide +kernel
theorem dX9_isAhead_30 : decode cX9_isAhead 30 = .ok (.aload_n 0, 1) := by decide +kernel
theorem dX9_isAhead_31 : decode cX9_isAhead 31 = .ok (.getfield 9, 3) := by decide +kernel
theorem dX9_isAhead_34 : decode cX9_isAhead 34 = .ok (.bipush 51, 2) := by decide +kernel
theorem dX9_isAhead_36 : decode cX9_isAhead 36 = .ok (.iload_n 2, 1) := by decide +kernel
theorem dX9_isAhead_37 : decode cX9_isAhead 37 = .ok (.iadd, 1) := by decide +kernel
theorem dX9_isAhead_38 : decode cX9_isAhead 38 = .ok (.iaload, 1) := by decide +kernel
theorem dX9_isAhead_39 : decode cX9_isAhead 39 = .ok (.if_icmp .ge 7, 3) := by decide +kernel
theorem dX9_isAhead_42 : decode cX9_isAhead 42 = .ok (.iconst 1, 1) := by decide +kernel
theorem dX9_isAhead_43 : decode cX9_isAhead 43 = .ok (.goto 4, 3) := by decide +kernel
theorem dX9_isAhead_46 : decode cX9_isAhead 46 = .ok (.iconst 0, 1) := by decide +kernel
theorem dX9_isAhead_47 : decode cX9_isAhead 47 = .ok (.ireturn, 1) := by decide +kernel
theorem dX9_isAhead_48 : decode cX9_isAhead 48 = .ok (.aload_n 0, 1) := by decide +kernel
theorem dX9_isAhead_49 : decode cX9_isAhead 49 = .ok (.iload_n 1, 1) := by decide +kernel
theorem dX9_isAhead_50 : decode cX9_isAhead 50 = .ok (.invokevirtual 66, 3) := by decide +kernel
theorem dX9_isAhead_53 : decode cX9_isAhead 53 = .ok (.istore_n 3, 1) := by decide +kernel
theorem dX9_isAhead_54 : decode cX9_isAhead 54 = .ok (.aload_n 0, 1) := by decide +kernel
theorem dX9_isAhead_55 : decode cX9_isAhead 55 = .ok (.iload_n 2, 1) := by decide +kernel
theorem dX9_isAhead_56 : decode cX9_isAhead 56 = .ok (.invokevirtual 66, 3) := by decide +kernel
theorem dX9_isAhead_59 : decode cX9_isAhead 59 = .ok (.istore 4, 2) := by decide +kernel
theorem dX9_isAhead_61 : decode cX9_isAhead 61 = .ok (.iload_n 3, 1) := by decide +kernel
theorem dX9_isAhead_62 : decode cX9_isAhead 62 = .ok (.iload 4, 2) := by decide +kernel
theorem dX9_isAhead_64 : decode cX9_isAhead 64 = .ok (.if_icmp .eq 17, 3) := by decide +kernel
theorem dX9_isAhead_67 : decode cX9_isAhead 67 = .ok (.iload_n 3, 1) := by decide +kernel
theorem dX9_isAhead_68 : decode cX9_isAhead 68 = .ok (.iload 4, 2) := by decide +kernel
theorem dX9_isAhead_70 : decode cX9_isAhead 70 = .ok (.if_icmp .le 7, 3) := by decide +kernel
theorem dX9_isAhead_73 : decode cX9_isAhead 73 = .ok (.iconst 1, 1) := by decide +kernel
theorem dX9_isAhead_74 : decode cX9_isAhead 74 = .ok (.goto 17, 3) := by decide +kernel
theorem dX9_isAhead_77 : decode cX9_isAhead 77 = .ok (.iconst 0, 1) := by decide +kernel
theorem dX9_isAhead_78 : decode cX9_isAhead 78 = .ok (.goto 13, 3) := by decide +kernel
theorem dX9_isAhead_81 : decode cX9_isAhead 81 = .ok (.iload_n 1, 1) := by decide +kernel
theorem dX9_isAhead_82 : decode cX9_isAhead 82 = .ok (.iload_n 2, 1) := by decide +kernel
theorem dX9_isAhead_83 : decode cX9_isAhead 83 = .ok (.if_icmp .ge 7, 3) := by decide +kernel
theorem dX9_isAhead_86 : decode cX9_isAhead 86 = .ok (.iconst 1, 1) := by decide +kernel
theorem dX9_isAhead_87 : decode cX9_isAhead 87 = .ok (.goto 4, 3) := by decide +kernel
theorem dX9_isAhead_90 : decode cX9_isAhead 90 = .ok (.iconst 0, 1) := by decide +kernel
theorem dX9_isAhead_91 : decode cX9_isAhead 91 = .ok (.ireturn, 1) := by decide +kernel
set_option maxRecDepth 20000 in
theorem ggX9_isAhead_X9_chainOf : GoodIn wsX9_isAhead wsX9_chainOf := goodIn_ca (goodIn_r _ [6, 1, 7, 8, 9, 10, 11, 12, 13, 14, 15, 16, 17, 18, 19, 20, 21, 22, 23, 24, 25, 26, 27] (by decide +kernel) (by decide +kernel)) (goodIn_sub (fun _ h => List.mem_cons_of_mem _ (List.mem_append_right _ h)) (by decide +kernel))
set_option maxRecDepth 20000 in
theorem gX9_isAhead_X9_chainOf : GoodIn wsX9_isAhead (wsV RX9 66 RX9 yX9_chainOf wsX9_chainOf) := goodIn_app (goodIn_of _ (by decide +kernel)) ggX9_isAhead_X9_chainOf
def rm_X9_isAhead : Room := { frames := 2, cells := 0, slots := 0, locals := 40 }
set_option maxHeartbeats 4000000 in
set_option maxRecDepth 100000 in
theorem c_X9_isAhead (l : Launch) {nb : Nat} {G : zG} {ad : Nat → Nat} {σ σ' : zs} {a1 a2 : Int32} {r : Int32} (hf : f_X9_isAhead σ a1 a2 = some (r, σ')) : zMi l yX9_isAhead wsX9_isAhead rm_X9_isAhead G (zS nb) ad σ [.ref (ad 65), .int a1, .int a2] r σ' := by
  intro sz
  refine Met.ofW (cc := cX9_isAhead) (maxL := 5) (ret := (some .boolean)) (by decide) rfl ?_
  intro p e s m args below meth c s₁ B hml hv
  obtain ⟨rfl, hsz, hv⟩ := hv
  have hx := B.exec
  have hb := B.bytes
  have hr := B.returns
  have hts := atoms_spec (ws := wsX9_isAhead) B.pre
  have hown : s.vm.findClass RX9 = some m.cls := findClass_of_methodNamed B.named
  have hlocks := B.notSynchronized
  subst hsz
  have B := zB_start hv
  have hinRX9 : ∀ w ∈ wsX90, w ∈ wsX9_isAhead := by decide +kernel
  have hl := lv_entry ([.ref (ad 65), .int a1, .int a2]) (n := 5) (Nat.le_of_ble_eq_true rfl)
  rw [lg_entry_eq]
  generalize (lg_sl ([.ref (ad 65), .int a1, .int a2]) ++ List.replicate (5 - (lg_sl ([.ref (ad 65), .int a1, .int a2])).length) Slot.unset).toArray = ls at hl ⊢
  have hl : lv_has ls 5 [(0, .ref (ad 65)), (1, .int a1), (2, .int a2)] := hl
  generalize hAe : zA ad (zS nb).length s.heap.size = A at B ⊢
  unfold f_X9_isAhead at hf
  refine lv_aload_n hx hb dX9_isAhead_0 rfl (lv_at hl 0 rfl) ?_
  refine z_getr hx hb hts hinRX9 hown B 65 0 66 rfl rfl rfl (by decide) (by decide +kernel) rfl dX9_isAhead_1 ?_
  refine lv_bipush (v := (51 : Int32)) hx hb dX9_isAhead_4 (by decide) ?_
  refine lv_iload_n hx hb dX9_isAhead_6 rfl (lv_at hl 1 rfl) ?_
  refine lv_iadd hx hb dX9_isAhead_7 ?_
  obtain ⟨hg, hf⟩ := zg_some hf
  refine z_iald hx hb B 66 rfl (zin_ok hg) dX9_isAhead_8 ?_
  refine lv_aload_n hx hb dX9_isAhead_9 rfl (lv_at hl 0 rfl) ?_
  refine z_getr hx hb hts hinRX9 hown B 65 0 66 rfl rfl rfl (by decide) (by decide +kernel) rfl dX9_isAhead_10 ?_
  refine lv_bipush (v := (51 : Int32)) hx hb dX9_isAhead_13 (by decide) ?_
  refine lv_iload_n hx hb dX9_isAhead_15 rfl (lv_at hl 2 rfl) ?_
  refine lv_iadd hx hb dX9_isAhead_16 ?_
  obtain ⟨hg, hf⟩ := zg_some hf
  refine z_iald hx hb B 66 rfl (zin_ok hg) dX9_isAhead_17 ?_
  refine lv_icmp_eq (tgt := 48) hx hb dX9_isAhead_18 (by decide) (fun hc => ?_) (fun hc => ?_)
  · have hf := zif_t hc hf
    refine lv_aload_n hx hb dX9_isAhead_48 rfl (lv_at hl 0 rfl) ?_
    refine lv_iload_n hx hb dX9_isAhead_49 rfl (lv_at hl 1 rfl) ?_
    obtain ⟨r2, σ3, hu1, hf⟩ := zb_some hf
    refine z_i B (va_runV (As := [.int a1]) (rest := []) ⟨hx, hb, hml, hown, hts⟩ (c_X9_chainOf l hu1 _) (cwV 1 hts gX9_isAhead_X9_chainOf rfl rfl rfl (by decide +kernel) ⟨Nat.le_of_ble_eq_true rfl, Nat.le_of_ble_eq_true rfl⟩) (z_preV B rfl rfl) rfl rfl hl.1 rfl (lv_room (Nat.le_of_ble_eq_true rfl)) dX9_isAhead_50 ⟨Nat.le_of_ble_eq_true rfl, Nat.le_of_ble_eq_true rfl⟩) (fun H locs B => ?_)
    refine lv_istore_n (lv' := [(3, .int r2), (0, .ref (ad 65)), (1, .int a1), (2, .int a2)]) hx hb dX9_isAhead_53 rfl hl (by decide) rfl (fun ls hl => ?_)
    refine lv_aload_n hx hb dX9_isAhead_54 rfl (lv_at hl 1 rfl) ?_
    refine lv_iload_n hx hb dX9_isAhead_55 rfl (lv_at hl 3 rfl) ?_
    obtain ⟨r5, σ6, hu4, hf⟩ := zb_some hf
    refine z_i B (va_runV (As := [.int a2]) (rest := []) ⟨hx, hb, hml, hown, hts⟩ (c_X9_chainOf l hu4 _) (cwV 1 hts gX9_isAhead_X9_chainOf rfl rfl rfl (by decide +kernel) ⟨Nat.le_of_ble_eq_true rfl, Nat.le_of_ble_eq_true rfl⟩) (z_preV B rfl rfl) rfl rfl hl.1 rfl (lv_room (Nat.le_of_ble_eq_true rfl)) dX9_isAhead_56 ⟨Nat.le_of_ble_eq_true rfl, Nat.le_of_ble_eq_true rfl⟩) (fun H locs B => ?_)
    refine lv_istore (lv' := [(4, .int r5), (3, .int r2), (0, .ref (ad 65)), (1, .int a1), (2, .int a2)]) hx hb dX9_isAhead_59 hl (by decide) rfl (fun ls hl => ?_)
    refine lv_iload_n hx hb dX9_isAhead_61 rfl (lv_at hl 1 rfl) ?_
    refine lv_iload hx hb dX9_isAhead_62 (lv_at hl 0 rfl) ?_
    refine lv_icmp_eq (tgt := 81) hx hb dX9_isAhead_64 (by decide) (fun hc => ?_) (fun hc => ?_)
    · have hf := zif_t hc hf
      refine lv_iload_n hx hb dX9_isAhead_81 rfl (lv_at hl 3 rfl) ?_
      refine lv_iload_n hx hb dX9_isAhead_82 rfl (lv_at hl 4 rfl) ?_
      refine lv_icmp_ge (tgt := 90) hx hb dX9_isAhead_83 (by decide) (fun hc => ?_) (fun hc => ?_)
      · have hf := zif_t hc hf
        refine lv_iconst (v := (0 : Int32)) hx hb dX9_isAhead_90 (by decide) ?_
        refine W.widen (k := 0) (n := 0) (Nat.le_of_ble_eq_true rfl) (Nat.le_of_ble_eq_true rfl) ?_
        exact z_iret hx hb hr (by decide) hlocks B hf dX9_isAhead_91
      · have hf := zif_f hc hf
        refine lv_iconst (v := (1 : Int32)) hx hb dX9_isAhead_86 (by decide) ?_
        refine lv_goto (tgt := 91) hx hb dX9_isAhead_87 (by decide) ?_
        refine W.widen (k := 0) (n := 0) (Nat.le_of_ble_eq_true rfl) (Nat.le_of_ble_eq_true rfl) ?_
        exact z_iret hx hb hr (by decide) hlocks B hf dX9_isAhead_91
    · have hf := zif_f hc hf
      refine lv_iload_n hx hb dX9_isAhead_67 rfl (lv_at hl 1 rfl) ?_
      refine lv_iload hx hb dX9_isAhead_68 (lv_at hl 0 rfl) ?_
      refine lv_icmp_le (tgt := 77) hx hb dX9_isAhead_70 (by decide) (fun hc => ?_) (fun hc => ?_)
      · have hf := zif_t hc hf
        refine lv_iconst (v := (0 : Int32)) hx hb dX9_isAhead_77 (by decide) ?_
        refine lv_goto (tgt := 91) hx hb dX9_isAhead_78 (by decide) ?_
        refine W.widen (k := 0) (n := 0) (Nat.le_of_ble_eq_true rfl) (Nat.le_of_ble_eq_true rfl) ?_
        exact z_iret hx hb hr (by decide) hlocks B hf dX9_isAhead_91
      · have hf := zif_f hc hf
        refine lv_iconst (v := (1 : Int32)) hx hb dX9_isAhead_73 (by decide) ?_
        refine lv_goto (tgt := 91) hx hb dX9_isAhead_74 (by decide) ?_
        refine W.widen (k := 0) (n := 0) (Nat.le_of_ble_eq_true rfl) (Nat.le_of_ble_eq_true rfl) ?_
        exact z_iret hx hb hr (by decide) hlocks B hf dX9_isAhead_91
  · have hf := zif_f hc hf
    refine lv_aload_n hx hb dX9_isAhead_21 rfl (lv_at hl 0 rfl) ?_
    refine z_getr hx hb hts hinRX9 hown B 65 0 66 rfl rfl rfl (by decide) (by decide +kernel) rfl dX9_isAhead_22 ?_
    refine lv_bipush (v := (51 : Int32)) hx hb dX9_isAhead_25 (by decide) ?_
    refine lv_iload_n hx hb dX9_isAhead_27 rfl (lv_at hl 1 rfl) ?_
    refine lv_iadd hx hb dX9_isAhead_28 ?_
    obtain ⟨hg, hf⟩ := zg_some hf
    refine z_iald hx hb B 66 rfl (zin_ok hg) dX9_isAhead_29 ?_
    refine lv_aload_n hx hb dX9_isAhead_30 rfl (lv_at hl 0 rfl) ?_
    refine z_getr hx hb hts hinRX9 hown B 65 0 66 rfl rfl rfl (by decide) (by decide +kernel) rfl dX9_isAhead_31 ?_
    refine lv_bipush (v := (51 : Int32)) hx hb dX9_isAhead_34 (by decide) ?_
    refine lv_iload_n hx hb dX9_isAhead_36 rfl (lv_at hl 2 rfl) ?_
    refine lv_iadd hx hb dX9_isAhead_37 ?_
    obtain ⟨hg, hf⟩ := zg_some hf
    refine z_iald hx hb B 66 rfl (zin_ok hg) dX9_isAhead_38 ?_
    refine lv_icmp_ge (tgt := 46) hx hb dX9_isAhead_39 (by decide) (fun hc => ?_) (fun hc => ?_)
    · have hf := zif_t hc hf
      refine lv_iconst (v := (0 : Int32)) hx hb dX9_isAhead_46 (by decide) ?_
      refine W.widen (k := 0) (n := 0) (Nat.le_of_ble_eq_true rfl) (Nat.le_of_ble_eq_true rfl) ?_
      exact z_iret hx hb hr (by decide) hlocks B hf dX9_isAhead_47
    · have hf := zif_f hc hf
      refine lv_iconst (v := (1 : Int32)) hx hb dX9_isAhead_42 (by decide) ?_
      refine lv_goto (tgt := 47) hx hb dX9_isAhead_43 (by decide) ?_
      refine W.widen (k := 0) (n := 0) (Nat.le_of_ble_eq_true rfl) (Nat.le_of_ble_eq_true rfl) ?_
      exact z_iret hx hb hr (by decide) hlocks B hf dX9_isAhead_47
theorem dX9_ranked_0 : decode cX9_ranked 0 = .ok (.aload_n 0, 1) := by decide +kernel
theorem dX9_ranked_1 : decode cX9_ranked 1 = .ok (.aload_n 0, 1) := by decide +kernel
theorem dX9_ranked_2 : decode cX9_ranked 2 = .ok (.iload_n 1, 1) := by decide +kernel
theorem dX9_ranked_3 : decode cX9_ranked 3 = .ok (.invokevirtual 118, 3) := by decide +kernel
theorem dX9_ranked_6 : decode cX9_ranked 6 = .ok (.ifCond .eq 7, 3) := by decide +kernel
theorem dX9_ranked_9 : decode cX9_ranked 9 = .ok (.iconst 0, 1) := by decide +kernel
theorem dX9_ranked_10 : decode cX9_ranked 10 = .ok (.goto 4, 3) := by decide +kernel
theorem dX9_ranked_13 : decode cX9_ranked 13 = .ok (.iconst 1, 1) := by decide +kernel
theorem dX9_ranked_14 : decode cX9_ranked 14 = .ok (.putfield 41, 3) := by decide +kernel
theorem dX9_ranked_17 : decode cX9_ranked 17 = .ok (.iconst 0, 1) := by decide +kernel
theorem dX9_ranked_18 : decode cX9_ranked 18 = .ok (.istore_n 2, 1) := by decide +kernel
theorem dX9_ranked_19 : decode cX9_ranked 19 = .ok (.aload_n 0, 1) := by decide +kernel
theorem dX9_ranked_20 : decode cX9_ranked 20 = .ok (.getfield 41, 3) := by decide +kernel
theorem dX9_ranked_23 : decode cX9_ranked 23 = .ok (.ifCond .ne 72, 3) := by decide +kernel
theorem dX9_ranked_26 : decode cX9_ranked 26 = .ok (.iload_n 2, 1) := by decide +kernel
theorem dX9_ranked_27 : decode cX9_ranked 27 = .ok (.aload_n 0, 1) := by decide +kernel
theorem dX9_ranked_28 : decode cX9_ranked 28 = .ok (.getfield 9, 3) := by decide +kernel
theorem dX9_ranked_31 : decode cX9_ranked 31 = .ok (.iconst 1, 1) := by decide +kernel
theorem dX9_ranked_32 : decode cX9_ranked 32 = .ok (.iaload, 1) := by decide +kernel
theorem dX9_ranked_33 : decode cX9_ranked 33 = .ok (.if_icmp .ge 62, 3) := by decide +kernel
theorem dX9_ranked_36 : decode cX9_ranked 36 = .ok (.iconst 0, 1) := by decide +kernel
theorem dX9_ranked_37 : decode cX9_ranked 37 = .ok (.istore_n 3, 1) := by decide +kernel
theorem dX9_ranked_38 : decode cX9_ranked 38 = .ok (.iconst 0, 1) := by decide +kernel
theorem dX9_ranked_39 : decode cX9_ranked 39 = .ok (.istore 4, 2) := by decide +kernel
theorem dX9_ranked_41 : decode cX9_ranked 41 = .ok (.iload 4, 2) := by decide +kernel
theorem dX9_ranked_43 : decode cX9_ranked 43 = .ok (.aload_n 0, 1) := by decide +kernel
theorem dX9_ranked_44 : decode cX9_ranked 44 = .ok (.getfield 9, 3) := by decide +kernel
theorem dX9_ranked_47 : decode cX9_ranked 47 = .ok (.iconst 1, 1) := by decide +kernel
theorem dX9_ranked_48 : decode cX9_ranked 48 = .ok (.iaload, 1) := by decide +kernel
theorem dX9_ranked_49 : decode cX9_ranked 49 = .ok (.if_icmp .ge 33, 3) := by decide +kernel
theorem dX9_ranked_52 : decode cX9_ranked 52 = .ok (.iload_n 3, 1) := by decide +kernel
theorem dX9_ranked_53 : decode cX9_ranked 53 = .ok (.iload 4, 2) := by decide +kernel
theorem dX9_ranked_55 : decode cX9_ranked 55 = .ok (.iload_n 2, 1) := by decide +kernel
theorem dX9_ranked_56 : decode cX9_ranked 56 = .ok (.if_icmp .eq 17, 3) := by decide +kernel
theorem dX9_ranked_59 : decode cX9_ranked 59 = .ok (.aload_n 0, 1) := by decide +kernel
theorem dX9_ranked_60 : decode cX9_ranked 60 = .ok (.iload 4, 2) := by decide +kernel
theorem dX9_ranked_62 : decode cX9_ranked 62 = .ok (.iload_n 2, 1) := by decide +kernel
theorem dX9_ranked_63 : decode cX9_ranked 63 = .ok (.invokevirtual 187, 3) := by decide +kernel
theorem dX9_ranked_66 : decode cX9_ranked 66 = .ok (.ifCond .eq 7, 3) := by decide +kernel
theorem dX9_ranked_69 : decode cX9_ranked 69 = .ok (.iconst 1, 1) := by decide +kernel
theorem dX9_ranked_70 : decode cX9_ranked 70 = .ok (.goto 4, 3) := by decide +kernel
theorem dX9_ranked_73 : decode cX9_ranked 73 = .ok (.iconst 0, 1) := by decide +kernel
theorem dX9_ranked_74 : decode cX9_ranked 74 = .ok (.iadd, 1) := by decide +kernel
theorem dX9_ranked_75 : decode cX9_ranked 75 = .ok (.istore_n 3, 1) := by decide +kernel
theorem dX9_ranked_76 : decode cX9_ranked 76 = .ok (.iinc 4 1, 3) := by decide +kernel
theorem dX9_ranked_79 : decode cX9_ranked 79 = .ok (.goto (-38), 3) := by decide +kernel
theorem dX9_ranked_82 : decode cX9_ranked 82 = .ok (.iload_n 3, 1) := by decide +kernel
theorem dX9_ranked_83 : decode cX9_ranked 83 = .ok (.iload_n 1, 1) := by decide +kernel
theorem dX9_ranked_84 : decode cX9_ranked 84 = .ok (.if_icmp .ne 5, 3) := by decide +kernel
theorem dX9_ranked_87 : decode cX9_ranked 87 = .ok (.iload_n 2, 1) := by decide +kernel
theorem dX9_ranked_88 : decode cX9_ranked 88 = .ok (.ireturn, 1) := by decide +kernel
theorem dX9_ranked_89 : decode cX9_ranked 89 = .ok (.iinc 2 1, 3) := by decide +kernel
theorem dX9_ranked_92 : decode cX9_ranked 92 = .ok (.goto (-73), 3) := by decide +kernel
theorem dX9_ranked_95 : decode cX9_ranked 95 = .ok (.iconst 0, 1) := by decide +kernel
theorem dX9_ranked_96 : decode cX9_ranked 96 = .ok (.ireturn, 1) := by decide +kernel
set_option maxRecDepth 20000 in
theorem ggX9_ranked_X9_isToken : GoodIn wsX9_ranked wsX9_isToken := goodIn_ca (goodIn_r _ [7, 2, 8, 9, 6, 10, 20, 21, 22, 23, 24, 25, 26, 27, 28, 29, 30, 31, 32, 33, 34, 35, 36, 37, 38, 39] (by decide +kernel) (by decide +kernel)) (goodIn_sub (fun _ h => List.mem_cons_of_mem _ (List.mem_append_right _ h)) (by decide +kernel))
set_option maxRecDepth 20000 in
theorem gX9_ranked_X9_isToken : GoodIn wsX9_ranked (wsV RX9 118 RX9 yX9_isToken wsX9_isToken) := goodIn_app (goodIn_of _ (by decide +kernel)) ggX9_ranked_X9_isToken
set_option maxRecDepth 20000 in
theorem ggX9_ranked_X9_isAhead : GoodIn wsX9_ranked wsX9_isAhead := goodIn_ca (goodIn_r _ [14, 2, 15, 16, 17, 6, 18, 19, 20, 21, 22, 23, 24, 25, 26, 27, 28, 29, 30, 31, 32, 33, 34, 35, 36, 37, 38, 39] (by decide +kernel) (by decide +kernel)) (goodIn_sub (fun _ h => List.mem_cons_of_mem _ (List.mem_append_right _ h)) (by decide +kernel))
set_option maxRecDepth 20000 in
theorem gX9_ranked_X9_isAhead : GoodIn wsX9_ranked (wsV RX9 187 RX9 yX9_isAhead wsX9_isAhead) := goodIn_app (goodIn_of _ (by decide +kernel)) ggX9_ranked_X9_isAhead
def rm_X9_ranked : Room := { frames := 3, cells := 0, slots := 0, locals := 64 }
set_option maxHeartbeats 4000000 in
set_option maxRecDepth 100000 in
theorem c_X9_ranked (l : Launch) {nb : Nat} {G : zG} {ad : Nat → Nat} {σ σ' : zs} {a1 : Int32} {r : Int32} (hf : f_X9_ranked σ a1 = some (r, σ')) : zMi l yX9_ranked wsX9_ranked rm_X9_ranked G (zS nb) ad σ [.ref (ad 65), .int a1] r σ' := by
  intro sz
  refine Met.ofW (cc := cX9_ranked) (maxL := 5) (ret := (some .int)) (by decide) rfl ?_
  intro p e s m args below meth c s₁ B hml hv
  obtain ⟨rfl, hsz, hv⟩ := hv
  have hx := B.exec
  have hb := B.bytes
  have hr := B.returns
  have hts := atoms_spec (ws := wsX9_ranked) B.pre
  have hown : s.vm.findClass RX9 = some m.cls := findClass_of_methodNamed B.named
  have hlocks := B.notSynchronized
  subst hsz
  have B := zB_start hv
  have hinRX9 : ∀ w ∈ wsX90, w ∈ wsX9_ranked := by decide +kernel
  have hl := lv_entry ([.ref (ad 65), .int a1]) (n := 5) (Nat.le_of_ble_eq_true rfl)
  rw [lg_entry_eq]
  generalize (lg_sl ([.ref (ad 65), .int a1]) ++ List.replicate (5 - (lg_sl ([.ref (ad 65), .int a1])).length) Slot.unset).toArray = ls at hl ⊢
  have hl : lv_has ls 5 [(0, .ref (ad 65)), (1, .int a1)] := hl
  generalize hAe : zA ad (zS nb).length s.heap.size = A at B ⊢
  have L74 : ∀ (K19 : zs → Int32 → Int32 → Option (Int32 × zs)) (hK19 : ∀ (σ : zs) (v1 : Int32) (v2 : Int32) (H : Heap) (locs : List Loc) (ls : Array Slot), K19 σ v1 v2 = some (r, σ') → zB A s G (zS nb) ad σ H locs → lv_has ls 5 [(0, .ref (ad 65)), (1, .int v1), (2, .int v2)] → W p l e (headSpec wsX9_ranked rm_X9_ranked).room s m ([.ref (ad 65), .int a1] : List Value).toArray below meth c H locs 0 0 (MQ below (va_Qi (fun r' (_ : Unit) => r' = r) (zPost G (zS nb) ad σ') A) ([.ref (ad 65), .int a1] : List Value).toArray s 0 0 A) (F0 m 19 ls [])) (K41 : zs → Int32 → Int32 → Int32 → Int32 → Option (Int32 × zs)) (hK41 : ∀ (σ : zs) (v1 : Int32) (v2 : Int32) (v3 : Int32) (v4 : Int32) (H : Heap) (locs : List Loc) (ls : Array Slot), K41 σ v1 v2 v3 v4 = some (r, σ') → zB A s G (zS nb) ad σ H locs → lv_has ls 5 [(0, .ref (ad 65)), (1, .int v1), (2, .int v2), (3, .int v3), (4, .int v4)] → W p l e (headSpec wsX9_ranked rm_X9_ranked).room s m ([.ref (ad 65), .int a1] : List Value).toArray below meth c H locs 0 0 (MQ below (va_Qi (fun r' (_ : Unit) => r' = r) (zPost G (zS nb) ad σ') A) ([.ref (ad 65), .int a1] : List Value).toArray s 0 0 A) (F0 m 41 ls [])) (σ : zs) (v1 : Int32) (v2 : Int32) (v4 : Int32) (s0 : Int32) (s1 : Int32) (H : Heap) (locs : List Loc) (ls : Array Slot), f_X9_ranked_74 K19 K41 σ v1 v2 v4 s0 s1 = some (r, σ') → zB A s G (zS nb) ad σ H locs → lv_has ls 5 [(0, .ref (ad 65)), (1, .int v1), (2, .int v2), (4, .int v4)] → W p l e (headSpec wsX9_ranked rm_X9_ranked).room s m ([.ref (ad 65), .int a1] : List Value).toArray below meth c H locs 0 0 (MQ below (va_Qi (fun r' (_ : Unit) => r' = r) (zPost G (zS nb) ad σ') A) ([.ref (ad 65), .int a1] : List Value).toArray s 0 0 A) (F0 m 74 ls [.int s0, .int s1]) := by
    intro K19 hK19 K41 hK41 σ v1 v2 v4 s0 s1 H locs ls hf B hl
    unfold f_X9_ranked_74 at hf
    refine lv_iadd hx hb dX9_ranked_74 ?_
    refine lv_istore_n (lv' := [(3, .int (s1 + s0)), (0, .ref (ad 65)), (1, .int v1), (2, .int v2), (4, .int v4)]) hx hb dX9_ranked_75 rfl hl (by decide) rfl (fun ls hl => ?_)
    refine lv_iinc (v := (v4 + (1 : Int32))) (lv' := [(4, .int (v4 + (1 : Int32))), (3, .int (s1 + s0)), (0, .ref (ad 65)), (1, .int v1), (2, .int v2)]) hx hb dX9_ranked_76 hl (k := 4) rfl (zc1 (by decide)) (by decide) rfl (fun ls hl => ?_)
    refine lv_goto (tgt := 41) hx hb dX9_ranked_79 (by decide) ?_
    exact hK41 _ _ _ _ _ _ _ _ hf B (lv_sub hl [2, 3, 4, 1, 0] rfl)
  have L41 : ∀ (K19 : zs → Int32 → Int32 → Option (Int32 × zs)) (hK19 : ∀ (σ : zs) (v1 : Int32) (v2 : Int32) (H : Heap) (locs : List Loc) (ls : Array Slot), K19 σ v1 v2 = some (r, σ') → zB A s G (zS nb) ad σ H locs → lv_has ls 5 [(0, .ref (ad 65)), (1, .int v1), (2, .int v2)] → W p l e (headSpec wsX9_ranked rm_X9_ranked).room s m ([.ref (ad 65), .int a1] : List Value).toArray below meth c H locs 0 0 (MQ below (va_Qi (fun r' (_ : Unit) => r' = r) (zPost G (zS nb) ad σ') A) ([.ref (ad 65), .int a1] : List Value).toArray s 0 0 A) (F0 m 19 ls [])) (n : Nat) (σ : zs) (v1 : Int32) (v2 : Int32) (v3 : Int32) (v4 : Int32) (H : Heap) (locs : List Loc) (ls : Array Slot), zlp4 (f_X9_ranked_41 K19) n σ v1 v2 v3 v4 = some (r, σ') → zB A s G (zS nb) ad σ H locs → lv_has ls 5 [(0, .ref (ad 65)), (1, .int v1), (2, .int v2), (3, .int v3), (4, .int v4)] → W p l e (headSpec wsX9_ranked rm_X9_ranked).room s m ([.ref (ad 65), .int a1] : List Value).toArray below meth c H locs 0 0 (MQ below (va_Qi (fun r' (_ : Unit) => r' = r) (zPost G (zS nb) ad σ') A) ([.ref (ad 65), .int a1] : List Value).toArray s 0 0 A) (F0 m 41 ls []) := by
    intro K19 hK19 n
    induction n with
    | zero =>
      intro σ v1 v2 v3 v4 H locs ls hf
      cases hf
    | succ n ih =>
      intro σ v1 v2 v3 v4 H locs ls hf B hl
      have hf : f_X9_ranked_41 K19 (zlp4 (f_X9_ranked_41 K19) n) σ v1 v2 v3 v4 = some (r, σ') := hf
      unfold f_X9_ranked_41 at hf
      refine lv_iload hx hb dX9_ranked_41 (lv_at hl 4 rfl) ?_
      refine lv_aload_n hx hb dX9_ranked_43 rfl (lv_at hl 0 rfl) ?_
      refine z_getr hx hb hts hinRX9 hown B 65 0 66 rfl rfl rfl (by decide) (by decide +kernel) rfl dX9_ranked_44 ?_
      refine lv_iconst (v := (1 : Int32)) hx hb dX9_ranked_47 (by decide) ?_
      obtain ⟨hg, hf⟩ := zg_some hf
      refine z_iald hx hb B 66 rfl (zin_ok hg) dX9_ranked_48 ?_
      refine lv_icmp_ge (tgt := 82) hx hb dX9_ranked_49 (by decide) (fun hc => ?_) (fun hc => ?_)
      · have hf := zif_t hc hf
        refine lv_iload_n hx hb dX9_ranked_82 rfl (lv_at hl 3 rfl) ?_
        refine lv_iload_n hx hb dX9_ranked_83 rfl (lv_at hl 1 rfl) ?_
        refine lv_icmp_ne (tgt := 89) hx hb dX9_ranked_84 (by decide) (fun hc => ?_) (fun hc => ?_)
        · have hf := zif_f hc hf
          refine lv_iinc (v := (v2 + (1 : Int32))) (lv' := [(2, .int (v2 + (1 : Int32))), (0, .ref (ad 65)), (1, .int v1), (3, .int v3), (4, .int v4)]) hx hb dX9_ranked_89 hl (k := 2) rfl (zc1 (by decide)) (by decide) rfl (fun ls hl => ?_)
          refine lv_goto (tgt := 19) hx hb dX9_ranked_92 (by decide) ?_
          exact hK19 _ _ _ _ _ _ hf B (lv_sub hl [1, 2, 0] rfl)
        · have hf := zif_t hc hf
          refine lv_iload_n hx hb dX9_ranked_87 rfl (lv_at hl 2 rfl) ?_
          refine W.widen (k := 0) (n := 0) (Nat.le_of_ble_eq_true rfl) (Nat.le_of_ble_eq_true rfl) ?_
          exact z_iret hx hb hr rfl hlocks B hf dX9_ranked_88
      · have hf := zif_f hc hf
        refine lv_iload_n hx hb dX9_ranked_52 rfl (lv_at hl 3 rfl) ?_
        refine lv_iload hx hb dX9_ranked_53 (lv_at hl 4 rfl) ?_
        refine lv_iload_n hx hb dX9_ranked_55 rfl (lv_at hl 2 rfl) ?_
        refine lv_icmp_eq (tgt := 73) hx hb dX9_ranked_56 (by decide) (fun hc => ?_) (fun hc => ?_)
        · have hf := zif_t hc hf
          refine lv_iconst (v := (0 : Int32)) hx hb dX9_ranked_73 (by decide) ?_
          exact L74 _ hK19 _ ih  _ _ _ _ _ _ _ _ _ hf B (lv_sub hl [0, 1, 2, 4] rfl)
        · have hf := zif_f hc hf
          refine lv_aload_n hx hb dX9_ranked_59 rfl (lv_at hl 0 rfl) ?_
          refine lv_iload hx hb dX9_ranked_60 (lv_at hl 4 rfl) ?_
          refine lv_iload_n hx hb dX9_ranked_62 rfl (lv_at hl 2 rfl) ?_
          obtain ⟨r5, σ6, hu4, hf⟩ := zb_some hf
          refine z_i B (va_runV (As := [.int v4, .int v2]) (rest := [.int v3]) ⟨hx, hb, hml, hown, hts⟩ (c_X9_isAhead l hu4 _) (cwV 2 hts gX9_ranked_X9_isAhead rfl rfl rfl (by decide +kernel) ⟨Nat.le_of_ble_eq_true rfl, Nat.le_of_ble_eq_true rfl⟩) (z_preV B rfl rfl) rfl rfl hl.1 rfl (lv_room (Nat.le_of_ble_eq_true rfl)) dX9_ranked_63 ⟨Nat.le_of_ble_eq_true rfl, Nat.le_of_ble_eq_true rfl⟩) (fun H locs B => ?_)
          refine lv_if_eq (tgt := 73) hx hb dX9_ranked_66 (by decide) (fun hc => ?_) (fun hc => ?_)
          · have hf := zif_t hc hf
            refine lv_iconst (v := (0 : Int32)) hx hb dX9_ranked_73 (by decide) ?_
            exact L74 _ hK19 _ ih  _ _ _ _ _ _ _ _ _ hf B (lv_sub hl [0, 1, 2, 4] rfl)
          · have hf := zif_f hc hf
            refine lv_iconst (v := (1 : Int32)) hx hb dX9_ranked_69 (by decide) ?_
            refine lv_goto (tgt := 74) hx hb dX9_ranked_70 (by decide) ?_
            exact L74 _ hK19 _ ih  _ _ _ _ _ _ _ _ _ hf B (lv_sub hl [0, 1, 2, 4] rfl)
  have L19 : ∀ (n : Nat) (σ : zs) (v1 : Int32) (v2 : Int32) (H : Heap) (locs : List Loc) (ls : Array Slot), zlp2 (f_X9_ranked_19) n σ v1 v2 = some (r, σ') → zB A s G (zS nb) ad σ H locs → lv_has ls 5 [(0, .ref (ad 65)), (1, .int v1), (2, .int v2)] → W p l e (headSpec wsX9_ranked rm_X9_ranked).room s m ([.ref (ad 65), .int a1] : List Value).toArray below meth c H locs 0 0 (MQ below (va_Qi (fun r' (_ : Unit) => r' = r) (zPost G (zS nb) ad σ') A) ([.ref (ad 65), .int a1] : List Value).toArray s 0 0 A) (F0 m 19 ls []) := by
    intro n
    induction n with
    | zero =>
      intro σ v1 v2 H locs ls hf
      cases hf
    | succ n ih =>
      intro σ v1 v2 H locs ls hf B hl
      have hf : f_X9_ranked_19 (zlp2 (f_X9_ranked_19) n) σ v1 v2 = some (r, σ') := hf
      unfold f_X9_ranked_19 at hf
      refine lv_aload_n hx hb dX9_ranked_19 rfl (lv_at hl 0 rfl) ?_
      refine z_geti hx hb hts hinRX9 hown B 65 3 rfl rfl rfl (by decide) (by decide +kernel) rfl dX9_ranked_20 ?_
      refine lv_if_ne (tgt := 95) hx hb dX9_ranked_23 (by decide) (fun hc => ?_) (fun hc => ?_)
      · have hf := zif_f hc hf
        refine lv_iconst (v := (0 : Int32)) hx hb dX9_ranked_95 (by decide) ?_
        refine W.widen (k := 0) (n := 0) (Nat.le_of_ble_eq_true rfl) (Nat.le_of_ble_eq_true rfl) ?_
        exact z_iret hx hb hr rfl hlocks B hf dX9_ranked_96
      · have hf := zif_t hc hf
        refine lv_iload_n hx hb dX9_ranked_26 rfl (lv_at hl 2 rfl) ?_
        refine lv_aload_n hx hb dX9_ranked_27 rfl (lv_at hl 0 rfl) ?_
        refine z_getr hx hb hts hinRX9 hown B 65 0 66 rfl rfl rfl (by decide) (by decide +kernel) rfl dX9_ranked_28 ?_
        refine lv_iconst (v := (1 : Int32)) hx hb dX9_ranked_31 (by decide) ?_
        obtain ⟨hg, hf⟩ := zg_some hf
        refine z_iald hx hb B 66 rfl (zin_ok hg) dX9_ranked_32 ?_
        refine lv_icmp_ge (tgt := 95) hx hb dX9_ranked_33 (by decide) (fun hc => ?_) (fun hc => ?_)
        · have hf := zif_t hc hf
          refine lv_iconst (v := (0 : Int32)) hx hb dX9_ranked_95 (by decide) ?_
          refine W.widen (k := 0) (n := 0) (Nat.le_of_ble_eq_true rfl) (Nat.le_of_ble_eq_true rfl) ?_
          exact z_iret hx hb hr rfl hlocks B hf dX9_ranked_96
        · have hf := zif_f hc hf
          refine lv_iconst (v := (0 : Int32)) hx hb dX9_ranked_36 (by decide) ?_
          refine lv_istore_n (lv' := [(3, .int (0 : Int32)), (0, .ref (ad 65)), (1, .int v1), (2, .int v2)]) hx hb dX9_ranked_37 rfl hl (by decide) rfl (fun ls hl => ?_)
          refine lv_iconst (v := (0 : Int32)) hx hb dX9_ranked_38 (by decide) ?_
          refine lv_istore (lv' := [(4, .int (0 : Int32)), (3, .int (0 : Int32)), (0, .ref (ad 65)), (1, .int v1), (2, .int v2)]) hx hb dX9_ranked_39 hl (by decide) rfl (fun ls hl => ?_)
          exact L41 _ ih  _ _ _ _ _ _ _ _ _ hf B (lv_sub hl [2, 3, 4, 1, 0] rfl)
  have L14 : ∀ (σ : zs) (v1 : Int32) (s0 : Int32) (H : Heap) (locs : List Loc) (ls : Array Slot), f_X9_ranked_14 σ v1 s0 = some (r, σ') → zB A s G (zS nb) ad σ H locs → lv_has ls 5 [(0, .ref (ad 65)), (1, .int v1)] → W p l e (headSpec wsX9_ranked rm_X9_ranked).room s m ([.ref (ad 65), .int a1] : List Value).toArray below meth c H locs 0 0 (MQ below (va_Qi (fun r' (_ : Unit) => r' = r) (zPost G (zS nb) ad σ') A) ([.ref (ad 65), .int a1] : List Value).toArray s 0 0 A) (F0 m 14 ls [.int s0, .ref (ad 65)]) := by
    intro σ v1 s0 H locs ls hf B hl
    unfold f_X9_ranked_14 at hf
    refine z_puti hx hb hts hinRX9 hown tyX9 tyX9_ok nmX9 B 65 3 rfl rfl rfl (by decide) (by decide +kernel) rfl rfl rfl rfl dX9_ranked_14 (fun H locs B => ?_)
    refine lv_iconst (v := (0 : Int32)) hx hb dX9_ranked_17 (by decide) ?_
    refine lv_istore_n (lv' := [(2, .int (0 : Int32)), (0, .ref (ad 65)), (1, .int v1)]) hx hb dX9_ranked_18 rfl hl (by decide) rfl (fun ls hl => ?_)
    exact L19  _ _ _ _ _ _ _ hf B (lv_sub hl [1, 2, 0] rfl)
  unfold f_X9_ranked at hf
  refine lv_aload_n hx hb dX9_ranked_0 rfl (lv_at hl 0 rfl) ?_
  refine lv_aload_n hx hb dX9_ranked_1 rfl (lv_at hl 0 rfl) ?_
  refine lv_iload_n hx hb dX9_ranked_2 rfl (lv_at hl 1 rfl) ?_
  obtain ⟨r2, σ3, hu1, hf⟩ := zb_some hf
  refine z_i B (va_runV (As := [.int a1]) (rest := [.ref (ad 65)]) ⟨hx, hb, hml, hown, hts⟩ (c_X9_isToken l hu1 _) (cwV 1 hts gX9_ranked_X9_isToken rfl rfl rfl (by decide +kernel) ⟨Nat.le_of_ble_eq_true rfl, Nat.le_of_ble_eq_true rfl⟩) (z_preV B rfl rfl) rfl rfl hl.1 rfl (lv_room (Nat.le_of_ble_eq_true rfl)) dX9_ranked_3 ⟨Nat.le_of_ble_eq_true rfl, Nat.le_of_ble_eq_true rfl⟩) (fun H locs B => ?_)
  refine lv_if_eq (tgt := 13) hx hb dX9_ranked_6 (by decide) (fun hc => ?_) (fun hc => ?_)
  · have hf := zif_t hc hf
    refine lv_iconst (v := (1 : Int32)) hx hb dX9_ranked_13 (by decide) ?_
    exact L14  _ _ _ _ _ _ hf B (lv_sub hl [0, 1] rfl)
  · have hf := zif_f hc hf
    refine lv_iconst (v := (0 : Int32)) hx hb dX9_ranked_9 (by decide) ?_
    refine lv_goto (tgt := 14) hx hb dX9_ranked_10 (by decide) ?_
    exact L14  _ _ _ _ _ _ hf B (lv_sub hl [0, 1] rfl)
theorem dX9_logs_0 : decode cX9_logs 0 = .ok (.bipush 19, 2) := by decide +kernel
theorem dX9_logs_2 : decode cX9_logs 2 = .ok (.istore_n 2, 1) := by decide +kernel
theorem dX9_logs_3 : decode cX9_logs 3 = .ok (.iload_n 2, 1) := by decide +kernel
theorem dX9_logs_4 : decode cX9_logs 4 = .ok (.ifCond .le 29, 3) := by decide +kernel
theorem dX9_logs_7 : decode cX9_logs 7 = .ok (.aload_n 0, 1) := by decide +kernel
theorem dX9_logs_8 : decode cX9_logs 8 = .ok (.getfield 9, 3) := by decide +kernel
theorem dX9_logs_11 : decode cX9_logs 11 = .ok (.bipush 7, 2) := by decide +kernel
theorem dX9_logs_13 : decode cX9_logs 13 = .ok (.iload_n 2, 1) := by decide +kernel
theorem dX9_logs_14 : decode cX9_logs 14 = .ok (.iadd, 1) := by decide +kernel
theorem dX9_logs_15 : decode cX9_logs 15 = .ok (.aload_n 0, 1) := by decide +kernel
theorem dX9_logs_16 : decode cX9_logs 16 = .ok (.getfield 9, 3) := by decide +kernel
theorem dX9_logs_19 : decode cX9_logs 19 = .ok (.bipush 7, 2) := by decide +kernel
theorem dX9_logs_21 : decode cX9_logs 21 = .ok (.iload_n 2, 1) := by decide +kernel
theorem dX9_logs_22 : decode cX9_logs 22 = .ok (.iadd, 1) := by decide +kernel
theorem dX9_logs_23 : decode cX9_logs 23 = .ok (.iconst 1, 1) := by decide +kernel
theorem dX9_logs_24 : decode cX9_logs 24 = .ok (.isub, 1) := by decide +kernel
theorem dX9_logs_25 : decode cX9_logs 25 = .ok (.iaload, 1) := by decide +kernel
theorem dX9_logs_26 : decode cX9_logs 26 = .ok (.iastore, 1) := by decide +kernel
theorem dX9_logs_27 : decode cX9_logs 27 = .ok (.iinc 2 (-1), 3) := by decide +kernel
theorem dX9_logs_30 : decode cX9_logs 30 = .ok (.goto (-27), 3) := by decide +kernel
theorem dX9_logs_33 : decode cX9_logs 33 = .ok (.aload_n 0, 1) := by decide +kernel
theorem dX9_logs_34 : decode cX9_logs 34 = .ok (.getfield 9, 3) := by decide +kernel
theorem dX9_logs_37 : decode cX9_logs 37 = .ok (.bipush 7, 2) := by decide +kernel
theorem dX9_logs_39 : decode cX9_logs 39 = .ok (.iload_n 1, 1) := by decide +kernel
theorem dX9_logs_40 : decode cX9_logs 40 = .ok (.iastore, 1) := by decide +kernel
theorem dX9_logs_41 : decode cX9_logs 41 = .ok (.aload_n 0, 1) := by decide +kernel
theorem dX9_logs_42 : decode cX9_logs 42 = .ok (.getfield 9, 3) := by decide +kernel
theorem dX9_logs_45 : decode cX9_logs 45 = .ok (.bipush 6, 2) := by decide +kernel
theorem dX9_logs_47 : decode cX9_logs 47 = .ok (.bipush 20, 2) := by decide +kernel
theorem dX9_logs_49 : decode cX9_logs 49 = .ok (.aload_n 0, 1) := by decide +kernel
theorem dX9_logs_50 : decode cX9_logs 50 = .ok (.getfield 9, 3) := by decide +kernel
theorem dX9_logs_53 : decode cX9_logs 53 = .ok (.bipush 6, 2) := by decide +kernel
theorem dX9_logs_55 : decode cX9_logs 55 = .ok (.iaload, 1) := by decide +kernel
theorem dX9_logs_56 : decode cX9_logs 56 = .ok (.iconst 1, 1) := by decide +kernel
theorem dX9_logs_57 : decode cX9_logs 57 = .ok (.iadd, 1) := by decide +kernel
theorem dX9_logs_58 : decode cX9_logs 58 = .ok (.invokestatic 165, 3) := by decide +kernel
theorem dX9_logs_61 : decode cX9_logs 61 = .ok (.iastore, 1) := by decide +kernel
theorem dX9_logs_62 : decode cX9_logs 62 = .ok (.return_, 1) := by decide +kernel
def rm_X9_logs : Room := { frames := 2, cells := 0, slots := 0, locals := 40 }
set_option maxHeartbeats 4000000 in
set_option maxRecDepth 100000 in
theorem c_X9_logs (l : Launch) {nb : Nat} {G : zG} {ad : Nat → Nat} {σ σ' : zs} {a1 : Int32} {r : Int32} (hf : f_X9_logs σ a1 = some (r, σ')) : zMv l yX9_logs wsX9_logs rm_X9_logs G (zS nb) ad σ [.ref (ad 65), .int a1] σ' := by
  intro sz
  refine Met.ofW (cc := cX9_logs) (maxL := 3) (ret := none) (by decide) rfl ?_
  intro p e s m args below meth c s₁ B hml hv
  obtain ⟨rfl, hsz, hv⟩ := hv
  have hx := B.exec
  have hb := B.bytes
  have hr := B.returns
  have hts := atoms_spec (ws := wsX9_logs) B.pre
  have hown : s.vm.findClass RX9 = some m.cls := findClass_of_methodNamed B.named
  have hlocks := B.notSynchronized
  subst hsz
  have B := zB_start hv
  have hinRX9 : ∀ w ∈ wsX90, w ∈ wsX9_logs := by decide +kernel
  have hl := lv_entry ([.ref (ad 65), .int a1]) (n := 3) (Nat.le_of_ble_eq_true rfl)
  rw [lg_entry_eq]
  generalize (lg_sl ([.ref (ad 65), .int a1]) ++ List.replicate (3 - (lg_sl ([.ref (ad 65), .int a1])).length) Slot.unset).toArray = ls at hl ⊢
  have hl : lv_has ls 3 [(0, .ref (ad 65)), (1, .int a1)] := hl
  generalize hAe : zA ad (zS nb).length s.heap.size = A at B ⊢
  have L3 : ∀ (n : Nat) (σ : zs) (v1 : Int32) (v2 : Int32) (H : Heap) (locs : List Loc) (ls : Array Slot), zlp2 (f_X9_logs_3) n σ v1 v2 = some (r, σ') → zB A s G (zS nb) ad σ H locs → lv_has ls 3 [(0, .ref (ad 65)), (1, .int v1), (2, .int v2)] → W p l e (headSpec wsX9_logs rm_X9_logs).room s m ([.ref (ad 65), .int a1] : List Value).toArray below meth c H locs 0 0 (MQ below (va_Qv (fun (_ : Unit) => True) (zPost G (zS nb) ad σ') A) ([.ref (ad 65), .int a1] : List Value).toArray s 0 0 A) (F0 m 3 ls []) := by
    intro n
    induction n with
    | zero =>
      intro σ v1 v2 H locs ls hf
      cases hf
    | succ n ih =>
      intro σ v1 v2 H locs ls hf B hl
      have hf : f_X9_logs_3 (zlp2 (f_X9_logs_3) n) σ v1 v2 = some (r, σ') := hf
      unfold f_X9_logs_3 at hf
      refine lv_iload_n hx hb dX9_logs_3 rfl (lv_at hl 2 rfl) ?_
      refine lv_if_le (tgt := 33) hx hb dX9_logs_4 (by decide) (fun hc => ?_) (fun hc => ?_)
      · have hf := zif_t hc hf
        refine lv_aload_n hx hb dX9_logs_33 rfl (lv_at hl 0 rfl) ?_
        refine z_getr hx hb hts hinRX9 hown B 65 0 66 rfl rfl rfl (by decide) (by decide +kernel) rfl dX9_logs_34 ?_
        refine lv_bipush (v := (7 : Int32)) hx hb dX9_logs_37 (by decide) ?_
        refine lv_iload_n hx hb dX9_logs_39 rfl (lv_at hl 1 rfl) ?_
        obtain ⟨hg, hf⟩ := zg_some hf
        refine z_iast hx hb B 66 rfl (zin_ok hg) dX9_logs_40 (fun H locs B => ?_)
        refine lv_aload_n hx hb dX9_logs_41 rfl (lv_at hl 0 rfl) ?_
        refine z_getr hx hb hts hinRX9 hown B 65 0 66 rfl rfl rfl (by decide) (by decide +kernel) rfl dX9_logs_42 ?_
        refine lv_bipush (v := (6 : Int32)) hx hb dX9_logs_45 (by decide) ?_
        refine lv_bipush (v := (20 : Int32)) hx hb dX9_logs_47 (by decide) ?_
        refine lv_aload_n hx hb dX9_logs_49 rfl (lv_at hl 0 rfl) ?_
        refine z_getr hx hb hts hinRX9 hown B 65 0 66 rfl rfl rfl (by decide) (by decide +kernel) rfl dX9_logs_50 ?_
        refine lv_bipush (v := (6 : Int32)) hx hb dX9_logs_53 (by decide) ?_
        obtain ⟨hg, hf⟩ := zg_some hf
        refine z_iald hx hb B 66 rfl (zin_ok hg) dX9_logs_55 ?_
        refine lv_iconst (v := (1 : Int32)) hx hb dX9_logs_56 (by decide) ?_
        refine lv_iadd hx hb dX9_logs_57 ?_
        refine va_mmin hx hb (hml.trans hl.1.symm) hown (index := 165) (hts _ (by decide +kernel)) (hts _ (by decide +kernel)) (hts _ (by decide +kernel)) (hts _ (by decide +kernel)) (Nat.le_of_ble_eq_true rfl) (Nat.le_of_ble_eq_true rfl) (Nat.le_of_ble_eq_true rfl) (Nat.le_of_ble_eq_true rfl) dX9_logs_58 ?_
        obtain ⟨hg, hf⟩ := zg_some hf
        refine z_iast hx hb B 66 rfl (zin_ok hg) dX9_logs_61 (fun H locs B => ?_)
        refine W.widen (k := 0) (n := 0) (Nat.le_of_ble_eq_true rfl) (Nat.le_of_ble_eq_true rfl) ?_
        exact z_vret hx hb hr hlocks B hf dX9_logs_62
      · have hf := zif_f hc hf
        refine lv_aload_n hx hb dX9_logs_7 rfl (lv_at hl 0 rfl) ?_
        refine z_getr hx hb hts hinRX9 hown B 65 0 66 rfl rfl rfl (by decide) (by decide +kernel) rfl dX9_logs_8 ?_
        refine lv_bipush (v := (7 : Int32)) hx hb dX9_logs_11 (by decide) ?_
        refine lv_iload_n hx hb dX9_logs_13 rfl (lv_at hl 2 rfl) ?_
        refine lv_iadd hx hb dX9_logs_14 ?_
        refine lv_aload_n hx hb dX9_logs_15 rfl (lv_at hl 0 rfl) ?_
        refine z_getr hx hb hts hinRX9 hown B 65 0 66 rfl rfl rfl (by decide) (by decide +kernel) rfl dX9_logs_16 ?_
        refine lv_bipush (v := (7 : Int32)) hx hb dX9_logs_19 (by decide) ?_
        refine lv_iload_n hx hb dX9_logs_21 rfl (lv_at hl 2 rfl) ?_
        refine lv_iadd hx hb dX9_logs_22 ?_
        refine lv_iconst (v := (1 : Int32)) hx hb dX9_logs_23 (by decide) ?_
        refine lv_isub hx hb dX9_logs_24 ?_
        obtain ⟨hg, hf⟩ := zg_some hf
        refine z_iald hx hb B 66 rfl (zin_ok hg) dX9_logs_25 ?_
        obtain ⟨hg, hf⟩ := zg_some hf
        refine z_iast hx hb B 66 rfl (zin_ok hg) dX9_logs_26 (fun H locs B => ?_)
        refine lv_iinc (v := (v2 + (-1 : Int32))) (lv' := [(2, .int (v2 + (-1 : Int32))), (0, .ref (ad 65)), (1, .int v1)]) hx hb dX9_logs_27 hl (k := 2) rfl (zc1 (by decide)) (by decide) rfl (fun ls hl => ?_)
        refine lv_goto (tgt := 3) hx hb dX9_logs_30 (by decide) ?_
        exact ih _ _ _ _ _ _ hf B (lv_sub hl [1, 2, 0] rfl)
  unfold f_X9_logs at hf
  refine lv_bipush (v := (19 : Int32)) hx hb dX9_logs_0 (by decide) ?_
  refine lv_istore_n (lv' := [(2, .int (19 : Int32)), (0, .ref (ad 65)), (1, .int a1)]) hx hb dX9_logs_2 rfl hl (by decide) rfl (fun ls hl => ?_)
  exact L3  _ _ _ _ _ _ _ hf B (lv_sub hl [1, 2, 0] rfl)
theorem dX9_request_0 : decode cX9_request 0 = .ok (.aload_n 0, 1) := by decide +kernel
theorem dX9_request_1 : decode cX9_request 1 = .ok (.iload_n 1, 1) := by decide +kernel
theorem dX9_request_2 : decode cX9_request 2 = .ok (.invokestatic 78, 3) := by decide +kernel
theorem dX9_request_5 : decode cX9_request 5 = .ok (.ifCond .eq 11, 3) := by decide +kernel
theorem dX9_request_8 : decode cX9_request 8 = .ok (.aload_n 0, 1) := by decide +kernel
theorem dX9_request_9 : decode cX9_request 9 = .ok (.iload_n 2, 1) := by decide +kernel
theorem dX9_request_10 : decode cX9_request 10 = .ok (.invokevirtual 118, 3) := by decide +kernel
theorem dX9_request_13 : decode cX9_request 13 = .ok (.ifCond .ne 7, 3) := by decide +kernel
theorem dX9_request_16 : decode cX9_request 16 = .ok (.iconst 1, 1) := by decide +kernel
theorem dX9_request_17 : decode cX9_request 17 = .ok (.goto 24, 3) := by decide +kernel
theorem dX9_request_20 : decode cX9_request 20 = .ok (.iload_n 3, 1) := by decide +kernel
theorem dX9_request_21 : decode cX9_request 21 = .ok (.iconst 1, 1) := by decide +kernel
theorem dX9_request_22 : decode cX9_request 22 = .ok (.if_icmp .eq 14, 3) := by decide +kernel
theorem dX9_request_25 : decode cX9_request 25 = .ok (.iload_n 3, 1) := by decide +kernel
theorem dX9_request_26 : decode cX9_request 26 = .ok (.iconst 2, 1) := by decide +kernel
theorem dX9_request_27 : decode cX9_request 27 = .ok (.if_icmp .eq 9, 3) := by decide +kernel
theorem dX9_request_30 : decode cX9_request 30 = .ok (.iload_n 3, 1) := by decide +kernel
theorem dX9_request_31 : decode cX9_request 31 = .ok (.bipush 8, 2) := by decide +kernel
theorem dX9_request_33 : decode cX9_request 33 = .ok (.if_icmp .ne 7, 3) := by decide +kernel
theorem dX9_request_36 : decode cX9_request 36 = .ok (.iconst 0, 1) := by decide +kernel
theorem dX9_request_37 : decode cX9_request 37 = .ok (.goto 4, 3) := by decide +kernel
theorem dX9_request_40 : decode cX9_request 40 = .ok (.iconst 2, 1) := by decide +kernel
theorem dX9_request_41 : decode cX9_request 41 = .ok (.putfield 41, 3) := by decide +kernel
theorem dX9_request_44 : decode cX9_request 44 = .ok (.aload_n 0, 1) := by decide +kernel
theorem dX9_request_45 : decode cX9_request 45 = .ok (.getfield 41, 3) := by decide +kernel
theorem dX9_request_48 : decode cX9_request 48 = .ok (.ifCond .eq 5, 3) := by decide +kernel
theorem dX9_request_51 : decode cX9_request 51 = .ok (.iconst 0, 1) := by decide +kernel
theorem dX9_request_52 : decode cX9_request 52 = .ok (.ireturn, 1) := by decide +kernel
theorem dX9_request_53 : decode cX9_request 53 = .ok (.aload_n 0, 1) := by decide +kernel
theorem dX9_request_54 : decode cX9_request 54 = .ok (.iload_n 1, 1) := by decide +kernel
theorem dX9_request_55 : decode cX9_request 55 = .ok (.iload_n 2, 1) := by decide +kernel
theorem dX9_request_56 : decode cX9_request 56 = .ok (.iload_n 3, 1) := by decide +kernel
theorem dX9_request_57 : decode cX9_request 57 = .ok (.iload 4, 2) := by decide +kernel
theorem dX9_request_59 : decode cX9_request 59 = .ok (.invokevirtual 124, 3) := by decide +kernel
theorem dX9_request_62 : decode cX9_request 62 = .ok (.istore 5, 2) := by decide +kernel
theorem dX9_request_64 : decode cX9_request 64 = .ok (.aload_n 0, 1) := by decide +kernel
theorem dX9_request_65 : decode cX9_request 65 = .ok (.sipush 1000, 3) := by decide +kernel
theorem dX9_request_68 : decode cX9_request 68 = .ok (.iload_n 1, 1) := by decide +kernel
theorem dX9_request_69 : decode cX9_request 69 = .ok (.imul, 1) := by decide +kernel
theorem dX9_request_70 : decode cX9_request 70 = .ok (.bipush 10, 2) := by decide +kernel
theorem dX9_request_72 : decode cX9_request 72 = .ok (.iload_n 2, 1) := by decide +kernel
theorem dX9_request_73 : decode cX9_request 73 = .ok (.imul, 1) := by decide +kernel
theorem dX9_request_74 : decode cX9_request 74 = .ok (.iadd, 1) := by decide +kernel
theorem dX9_request_75 : decode cX9_request 75 = .ok (.iload 5, 2) := by decide +kernel
theorem dX9_request_77 : decode cX9_request 77 = .ok (.ifCond .eq 7, 3) := by decide +kernel
theorem dX9_request_80 : decode cX9_request 80 = .ok (.iconst 1, 1) := by decide +kernel
theorem dX9_request_81 : decode cX9_request 81 = .ok (.goto 4, 3) := by decide +kernel
theorem dX9_request_84 : decode cX9_request 84 = .ok (.iconst 0, 1) := by decide +kernel
theorem dX9_request_85 : decode cX9_request 85 = .ok (.iadd, 1) := by decide +kernel
theorem dX9_request_86 : decode cX9_request 86 = .ok (.invokevirtual 190, 3) := by decide +kernel
theorem dX9_request_89 : decode cX9_request 89 = .ok (.aload_n 0, 1) := by decide +kernel
theorem dX9_request_90 : decode cX9_request 90 = .ok (.getfield 9, 3) := by decide +kernel
theorem dX9_request_93 : decode cX9_request 93 = .ok (.iload 5, 2) := by decide +kernel
theorem dX9_request_95 : decode cX9_request 95 = .ok (.ifCond .eq 7, 3) := by decide +kernel
theorem dX9_request_98 : decode cX9_request 98 = .ok (.iconst 4, 1) := by decide +kernel
theorem dX9_request_99 : decode cX9_request 99 = .ok (.goto 4, 3) := by decide +kernel
theorem dX9_request_102 : decode cX9_request 102 = .ok (.iconst 5, 1) := by decide +kernel
theorem dX9_request_103 : decode cX9_request 103 = .ok (.dup2, 1) := by decide +kernel
theorem dX9_request_104 : decode cX9_request 104 = .ok (.iaload, 1) := by decide +kernel
theorem dX9_request_105 : decode cX9_request 105 = .ok (.iconst 1, 1) := by decide +kernel
theorem dX9_request_106 : decode cX9_request 106 = .ok (.iadd, 1) := by decide +kernel
theorem dX9_request_107 : decode cX9_request 107 = .ok (.iastore, 1) := by decide +kernel
theorem dX9_request_108 : decode cX9_request 108 = .ok (.aload_n 0, 1) := by decide +kernel
theorem dX9_request_109 : decode cX9_request 109 = .ok (.iload 5, 2) := by decide +kernel
theorem dX9_request_111 : decode cX9_request 111 = .ok (.ifCond .eq 7, 3) := by decide +kernel
theorem dX9_request_114 : decode cX9_request 114 = .ok (.iconst 0, 1) := by decide +kernel
theorem dX9_request_115 : decode cX9_request 115 = .ok (.goto 4, 3) := by decide +kernel
theorem dX9_request_118 : decode cX9_request 118 = .ok (.iconst 3, 1) := by decide +kernel
theorem dX9_request_119 : decode cX9_request 119 = .ok (.putfield 41, 3) := by decide +kernel
theorem dX9_request_122 : decode cX9_request 122 = .ok (.iload 5, 2) := by decide +kernel
theorem dX9_request_124 : decode cX9_request 124 = .ok (.ifCond .ne 5, 3) := by decide +kernel
theorem dX9_request_127 : decode cX9_request 127 = .ok (.iconst 0, 1) := by decide +kernel
theorem dX9_request_128 : decode cX9_request 128 = .ok (.ireturn, 1) := by decide +kernel
theorem dX9_request_129 : decode cX9_request 129 = .ok (.iload_n 2, 1) := by decide +kernel
theorem dX9_request_130 : decode cX9_request 130 = .ok (.istore 6, 2) := by decide +kernel
theorem dX9_request_132 : decode cX9_request 132 = .ok (.iload 6, 2) := by decide +kernel
theorem dX9_request_134 : decode cX9_request 134 = .ok (.ifCond .lt 33, 3) := by decide +kernel
theorem dX9_request_137 : decode cX9_request 137 = .ok (.aload_n 0, 1) := by decide +kernel
theorem dX9_request_138 : decode cX9_request 138 = .ok (.getfield 9, 3) := by decide +kernel
theorem dX9_request_141 : decode cX9_request 141 = .ok (.sipush 163, 3) := by decide +kernel
theorem dX9_request_144 : decode cX9_request 144 = .ok (.iload 6, 2) := by decide +kernel
theorem dX9_request_146 : decode cX9_request 146 = .ok (.iadd, 1) := by decide +kernel
theorem dX9_request_147 : decode cX9_request 147 = .ok (.dup2, 1) := by decide +kernel
theorem dX9_request_148 : decode cX9_request 148 = .ok (.iaload, 1) := by decide +kernel
theorem dX9_request_149 : decode cX9_request 149 = .ok (.iconst 1, 1) := by decide +kernel
theorem dX9_request_150 : decode cX9_request 150 = .ok (.iadd, 1) := by decide +kernel
theorem dX9_request_151 : decode cX9_request 151 = .ok (.iastore, 1) := by decide +kernel
theorem dX9_request_152 : decode cX9_request 152 = .ok (.aload_n 0, 1) := by decide +kernel
theorem dX9_request_153 : decode cX9_request 153 = .ok (.getfield 9, 3) := by decide +kernel
theorem dX9_request_156 : decode cX9_request 156 = .ok (.bipush 79, 2) := by decide +kernel
theorem dX9_request_158 : decode cX9_request 158 = .ok (.iload 6, 2) := by decide +kernel
theorem dX9_request_160 : decode cX9_request 160 = .ok (.iadd, 1) := by decide +kernel
theorem dX9_request_161 : decode cX9_request 161 = .ok (.iaload, 1) := by decide +kernel
theorem dX9_request_162 : decode cX9_request 162 = .ok (.istore 6, 2) := by decide +kernel
theorem dX9_request_164 : decode cX9_request 164 = .ok (.goto (-32), 3) := by decide +kernel
theorem dX9_request_167 : decode cX9_request 167 = .ok (.aload_n 0, 1) := by decide +kernel
theorem dX9_request_168 : decode cX9_request 168 = .ok (.getfield 9, 3) := by decide +kernel
theorem dX9_request_171 : decode cX9_request 171 = .ok (.bipush 51, 2) := by decide +kernel
theorem dX9_request_173 : decode cX9_request 173 = .ok (.iload_n 2, 1) := by decide +kernel
theorem dX9_request_174 : decode cX9_request 174 = .ok (.iadd, 1) := by decide +kernel
theorem dX9_request_175 : decode cX9_request 175 = .ok (.iaload, 1) := by decide +kernel
theorem dX9_request_176 : decode cX9_request 176 = .ok (.istore 6, 2) := by decide +kernel
theorem dX9_request_178 : decode cX9_request 178 = .ok (.aload_n 0, 1) := by decide +kernel
theorem dX9_request_179 : decode cX9_request 179 = .ok (.getfield 9, 3) := by decide +kernel
theorem dX9_request_182 : decode cX9_request 182 = .ok (.bipush 27, 2) := by decide +kernel
theorem dX9_request_184 : decode cX9_request 184 = .ok (.iload 6, 2) := by decide +kernel
theorem dX9_request_186 : decode cX9_request 186 = .ok (.iadd, 1) := by decide +kernel
theorem dX9_request_187 : decode cX9_request 187 = .ok (.iaload, 1) := by decide +kernel
theorem dX9_request_188 : decode cX9_request 188 = .ok (.istore 7, 2) := by decide +kernel
theorem dX9_request_190 : decode cX9_request 190 = .ok (.iload_n 3, 1) := by decide +kernel
theorem dX9_request_191 : decode cX9_request 191 = .ok (.iconst 2, 1) := by decide +kernel
theorem dX9_request_192 : decode cX9_request 192 = .ok (.if_icmp .ne 15, 3) := by decide +kernel
theorem dX9_request_195 : decode cX9_request 195 = .ok (.aload_n 0, 1) := by decide +kernel
theorem dX9_request_196 : decode cX9_request 196 = .ok (.getfield 9, 3) := by decide +kernel
theorem dX9_request_199 : decode cX9_request 199 = .ok (.bipush 27, 2) := by decide +kernel
theorem dX9_request_201 : decode cX9_request 201 = .ok (.iload 6, 2) := by decide +kernel
theorem dX9_request_203 : decode cX9_request 203 = .ok (.iadd, 1) := by decide +kernel
theorem dX9_request_204 : decode cX9_request 204 = .ok (.iload 4, 2) := by decide +kernel
theorem dX9_request_206 : decode cX9_request 206 = .ok (.iastore, 1) := by decide +kernel
theorem dX9_request_207 : decode cX9_request 207 = .ok (.iload_n 3, 1) := by decide +kernel
theorem dX9_request_208 : decode cX9_request 208 = .ok (.bipush 8, 2) := by decide +kernel
theorem dX9_request_210 : decode cX9_request 210 = .ok (.if_icmp .ne 28, 3) := by decide +kernel
theorem dX9_request_213 : decode cX9_request 213 = .ok (.aload_n 0, 1) := by decide +kernel
theorem dX9_request_214 : decode cX9_request 214 = .ok (.getfield 9, 3) := by decide +kernel
theorem dX9_request_217 : decode cX9_request 217 = .ok (.bipush 39, 2) := by decide +kernel
theorem dX9_request_219 : decode cX9_request 219 = .ok (.iload 6, 2) := by decide +kernel
theorem dX9_request_221 : decode cX9_request 221 = .ok (.iadd, 1) := by decide +kernel
theorem dX9_request_222 : decode cX9_request 222 = .ok (.dup2, 1) := by decide +kernel
theorem dX9_request_223 : decode cX9_request 223 = .ok (.iaload, 1) := by decide +kernel
theorem dX9_request_224 : decode cX9_request 224 = .ok (.iconst 1, 1) := by decide +kernel
theorem dX9_request_225 : decode cX9_request 225 = .ok (.iadd, 1) := by decide +kernel
theorem dX9_request_226 : decode cX9_request 226 = .ok (.iastore, 1) := by decide +kernel
theorem dX9_request_227 : decode cX9_request 227 = .ok (.aload_n 0, 1) := by decide +kernel
theorem dX9_request_228 : decode cX9_request 228 = .ok (.getfield 9, 3) := by decide +kernel
theorem dX9_request_231 : decode cX9_request 231 = .ok (.bipush 39, 2) := by decide +kernel
theorem dX9_request_233 : decode cX9_request 233 = .ok (.iload 6, 2) := by decide +kernel
theorem dX9_request_235 : decode cX9_request 235 = .ok (.iadd, 1) := by decide +kernel
theorem dX9_request_236 : decode cX9_request 236 = .ok (.iaload, 1) := by decide +kernel
theorem dX9_request_237 : decode cX9_request 237 = .ok (.ireturn, 1) := by decide +kernel
theorem dX9_request_238 : decode cX9_request 238 = .ok (.iload 7, 2) := by decide +kernel
theorem dX9_request_240 : decode cX9_request 240 = .ok (.ireturn, 1) := by decide +kernel
set_option maxRecDepth 20000 in
theorem ggX9_request_X9_isSubject : GoodIn wsX9_request wsX9_isSubject := goodIn_r _ [6, 7, 8, 5, 9] (by decide +kernel) (by decide +kernel)
set_option maxRecDepth 20000 in
theorem gX9_request_X9_isSubject : GoodIn wsX9_request (va_wsS RX9 78 yX9_isSubject wsX9_isSubject) := goodIn_app (goodIn_of _ (by decide +kernel)) ggX9_request_X9_isSubject
set_option maxRecDepth 20000 in
theorem ggX9_request_X9_allows : GoodIn wsX9_request wsX9_allows := goodIn_ca (goodIn_r _ [17, 2, 18, 19, 20, 5, 21, 22, 23, 24, 25, 26, 27, 28, 29, 30, 31, 32, 33, 34, 35, 36, 37, 38, 39, 40, 41, 42, 43, 44, 7, 8, 9, 45, 46, 47, 48, 57, 58, 59, 60, 61, 62, 63, 64, 65, 66, 67, 68, 69, 70, 71, 72, 73, 74, 75, 76] (by decide +kernel) (by decide +kernel)) (goodIn_sub (fun _ h => List.mem_cons_of_mem _ (List.mem_append_right _ h)) (by decide +kernel))
set_option maxRecDepth 20000 in
theorem gX9_request_X9_allows : GoodIn wsX9_request (wsV RX9 124 RX9 yX9_allows wsX9_allows) := goodIn_app (goodIn_of _ (by decide +kernel)) ggX9_request_X9_allows
set_option maxRecDepth 20000 in
theorem ggX9_request_X9_logs : GoodIn wsX9_request wsX9_logs := goodIn_ca (goodIn_r _ [52, 2, 53, 54, 55, 56, 57, 58, 59, 60, 61, 62, 63, 64, 65, 66, 67, 68, 69, 70, 71, 72, 73, 74, 75, 76] (by decide +kernel) (by decide +kernel)) (goodIn_sub (fun _ h => List.mem_cons_of_mem _ (List.mem_append_right _ h)) (by decide +kernel))
set_option maxRecDepth 20000 in
theorem gX9_request_X9_logs : GoodIn wsX9_request (wsV RX9 190 RX9 yX9_logs wsX9_logs) := goodIn_app (goodIn_of _ (by decide +kernel)) ggX9_request_X9_logs
set_option maxRecDepth 20000 in
theorem ggX9_request_X9_isToken : GoodIn wsX9_request wsX9_isToken := goodIn_ca (goodIn_r _ [13, 2, 7, 8, 5, 9, 57, 58, 59, 60, 61, 62, 63, 64, 65, 66, 67, 68, 69, 70, 71, 72, 73, 74, 75, 76] (by decide +kernel) (by decide +kernel)) (goodIn_sub (fun _ h => List.mem_cons_of_mem _ (List.mem_append_right _ h)) (by decide +kernel))
set_option maxRecDepth 20000 in
theorem gX9_request_X9_isToken : GoodIn wsX9_request (wsV RX9 118 RX9 yX9_isToken wsX9_isToken) := goodIn_app (goodIn_of _ (by decide +kernel)) ggX9_request_X9_isToken
def rm_X9_request : Room := { frames := 4, cells := 0, slots := 0, locals := 94 }
set_option maxHeartbeats 4000000 in
set_option maxRecDepth 100000 in
theorem c_X9_request (l : Launch) {nb : Nat} {G : zG} {ad : Nat → Nat} {σ σ' : zs} {a1 a2 a3 a4 : Int32} {r : Int32} (hf : f_X9_request σ a1 a2 a3 a4 = some (r, σ')) : zMi l yX9_request wsX9_request rm_X9_request G (zS nb) ad σ [.ref (ad 65), .int a1, .int a2, .int a3, .int a4] r σ' := by
  intro sz
  refine Met.ofW (cc := cX9_request) (maxL := 8) (ret := (some .int)) (by decide) rfl ?_
  intro p e s m args below meth c s₁ B hml hv
  obtain ⟨rfl, hsz, hv⟩ := hv
  have hx := B.exec
  have hb := B.bytes
  have hr := B.returns
  have hts := atoms_spec (ws := wsX9_request) B.pre
  have hown : s.vm.findClass RX9 = some m.cls := findClass_of_methodNamed B.named
  have hlocks := B.notSynchronized
  subst hsz
  have B := zB_start hv
  have hinRX9 : ∀ w ∈ wsX90, w ∈ wsX9_request := by decide +kernel
  have hl := lv_entry ([.ref (ad 65), .int a1, .int a2, .int a3, .int a4]) (n := 8) (Nat.le_of_ble_eq_true rfl)
  rw [lg_entry_eq]
  generalize (lg_sl ([.ref (ad 65), .int a1, .int a2, .int a3, .int a4]) ++ List.replicate (8 - (lg_sl ([.ref (ad 65), .int a1, .int a2, .int a3, .int a4])).length) Slot.unset).toArray = ls at hl ⊢
  have hl : lv_has ls 8 [(0, .ref (ad 65)), (1, .int a1), (2, .int a2), (3, .int a3), (4, .int a4)] := hl
  generalize hAe : zA ad (zS nb).length s.heap.size = A at B ⊢
  have L207 : ∀ (σ : zs) (v3 : Int32) (v6 : Int32) (v7 : Int32) (H : Heap) (locs : List Loc) (ls : Array Slot), f_X9_request_207 σ v3 v6 v7 = some (r, σ') → zB A s G (zS nb) ad σ H locs → lv_has ls 8 [(0, .ref (ad 65)), (3, .int v3), (6, .int v6), (7, .int v7)] → W p l e (headSpec wsX9_request rm_X9_request).room s m ([.ref (ad 65), .int a1, .int a2, .int a3, .int a4] : List Value).toArray below meth c H locs 0 0 (MQ below (va_Qi (fun r' (_ : Unit) => r' = r) (zPost G (zS nb) ad σ') A) ([.ref (ad 65), .int a1, .int a2, .int a3, .int a4] : List Value).toArray s 0 0 A) (F0 m 207 ls []) := by
    intro σ v3 v6 v7 H locs ls hf B hl
    unfold f_X9_request_207 at hf
    refine lv_iload_n hx hb dX9_request_207 rfl (lv_at hl 1 rfl) ?_
    refine lv_bipush (v := (8 : Int32)) hx hb dX9_request_208 (by decide) ?_
    refine lv_icmp_ne (tgt := 238) hx hb dX9_request_210 (by decide) (fun hc => ?_) (fun hc => ?_)
    · have hf := zif_f hc hf
      refine lv_iload hx hb dX9_request_238 (lv_at hl 3 rfl) ?_
      refine W.widen (k := 0) (n := 0) (Nat.le_of_ble_eq_true rfl) (Nat.le_of_ble_eq_true rfl) ?_
      exact z_iret hx hb hr rfl hlocks B hf dX9_request_240
    · have hf := zif_t hc hf
      refine lv_aload_n hx hb dX9_request_213 rfl (lv_at hl 0 rfl) ?_
      refine z_getr hx hb hts hinRX9 hown B 65 0 66 rfl rfl rfl (by decide) (by decide +kernel) rfl dX9_request_214 ?_
      refine lv_bipush (v := (39 : Int32)) hx hb dX9_request_217 (by decide) ?_
      refine lv_iload hx hb dX9_request_219 (lv_at hl 2 rfl) ?_
      refine lv_iadd hx hb dX9_request_221 ?_
      refine lv_dup2_11 hx hb dX9_request_222 rfl rfl ?_
      obtain ⟨hg, hf⟩ := zg_some hf
      refine z_iald hx hb B 66 rfl (zin_ok hg) dX9_request_223 ?_
      refine lv_iconst (v := (1 : Int32)) hx hb dX9_request_224 (by decide) ?_
      refine lv_iadd hx hb dX9_request_225 ?_
      obtain ⟨hg, hf⟩ := zg_some hf
      refine z_iast hx hb B 66 rfl (zin_ok hg) dX9_request_226 (fun H locs B => ?_)
      refine lv_aload_n hx hb dX9_request_227 rfl (lv_at hl 0 rfl) ?_
      refine z_getr hx hb hts hinRX9 hown B 65 0 66 rfl rfl rfl (by decide) (by decide +kernel) rfl dX9_request_228 ?_
      refine lv_bipush (v := (39 : Int32)) hx hb dX9_request_231 (by decide) ?_
      refine lv_iload hx hb dX9_request_233 (lv_at hl 2 rfl) ?_
      refine lv_iadd hx hb dX9_request_235 ?_
      obtain ⟨hg, hf⟩ := zg_some hf
      refine z_iald hx hb B 66 rfl (zin_ok hg) dX9_request_236 ?_
      refine W.widen (k := 0) (n := 0) (Nat.le_of_ble_eq_true rfl) (Nat.le_of_ble_eq_true rfl) ?_
      exact z_iret hx hb hr rfl hlocks B hf dX9_request_237
  have L132 : ∀ (n : Nat) (σ : zs) (v2 : Int32) (v3 : Int32) (v4 : Int32) (v6 : Int32) (H : Heap) (locs : List Loc) (ls : Array Slot), zlp4 (f_X9_request_132) n σ v2 v3 v4 v6 = some (r, σ') → zB A s G (zS nb) ad σ H locs → lv_has ls 8 [(0, .ref (ad 65)), (2, .int v2), (3, .int v3), (4, .int v4), (6, .int v6)] → W p l e (headSpec wsX9_request rm_X9_request).room s m ([.ref (ad 65), .int a1, .int a2, .int a3, .int a4] : List Value).toArray below meth c H locs 0 0 (MQ below (va_Qi (fun r' (_ : Unit) => r' = r) (zPost G (zS nb) ad σ') A) ([.ref (ad 65), .int a1, .int a2, .int a3, .int a4] : List Value).toArray s 0 0 A) (F0 m 132 ls []) := by
    intro n
    induction n with
    | zero =>
      intro σ v2 v3 v4 v6 H locs ls hf
      cases hf
    | succ n ih =>
      intro σ v2 v3 v4 v6 H locs ls hf B hl
      have hf : f_X9_request_132 (zlp4 (f_X9_request_132) n) σ v2 v3 v4 v6 = some (r, σ') := hf
      unfold f_X9_request_132 at hf
      refine lv_iload hx hb dX9_request_132 (lv_at hl 4 rfl) ?_
      refine lv_if_lt (tgt := 167) hx hb dX9_request_134 (by decide) (fun hc => ?_) (fun hc => ?_)
      · have hf := zif_t hc hf
        refine lv_aload_n hx hb dX9_request_167 rfl (lv_at hl 0 rfl) ?_
        refine z_getr hx hb hts hinRX9 hown B 65 0 66 rfl rfl rfl (by decide) (by decide +kernel) rfl dX9_request_168 ?_
        refine lv_bipush (v := (51 : Int32)) hx hb dX9_request_171 (by decide) ?_
        refine lv_iload_n hx hb dX9_request_173 rfl (lv_at hl 1 rfl) ?_
        refine lv_iadd hx hb dX9_request_174 ?_
        obtain ⟨hg, hf⟩ := zg_some hf
        refine z_iald hx hb B 66 rfl (zin_ok hg) dX9_request_175 ?_
        refine lv_istore (lv' := [(6, .int (σ 66 ((51 : Int32) + v2).toNatClampNeg)), (0, .ref (ad 65)), (2, .int v2), (3, .int v3), (4, .int v4)]) hx hb dX9_request_176 hl (by decide) rfl (fun ls hl => ?_)
        refine lv_aload_n hx hb dX9_request_178 rfl (lv_at hl 1 rfl) ?_
        refine z_getr hx hb hts hinRX9 hown B 65 0 66 rfl rfl rfl (by decide) (by decide +kernel) rfl dX9_request_179 ?_
        refine lv_bipush (v := (27 : Int32)) hx hb dX9_request_182 (by decide) ?_
        refine lv_iload hx hb dX9_request_184 (lv_at hl 0 rfl) ?_
        refine lv_iadd hx hb dX9_request_186 ?_
        obtain ⟨hg, hf⟩ := zg_some hf
        refine z_iald hx hb B 66 rfl (zin_ok hg) dX9_request_187 ?_
        refine lv_istore (lv' := [(7, .int (σ 66 ((27 : Int32) + (σ 66 ((51 : Int32) + v2).toNatClampNeg)).toNatClampNeg)), (6, .int (σ 66 ((51 : Int32) + v2).toNatClampNeg)), (0, .ref (ad 65)), (2, .int v2), (3, .int v3), (4, .int v4)]) hx hb dX9_request_188 hl (by decide) rfl (fun ls hl => ?_)
        refine lv_iload_n hx hb dX9_request_190 rfl (lv_at hl 4 rfl) ?_
        refine lv_iconst (v := (2 : Int32)) hx hb dX9_request_191 (by decide) ?_
        refine lv_icmp_ne (tgt := 207) hx hb dX9_request_192 (by decide) (fun hc => ?_) (fun hc => ?_)
        · have hf := zif_f hc hf
          exact L207  _ _ _ _ _ _ _ hf B (lv_sub hl [2, 4, 1, 0] rfl)
        · have hf := zif_t hc hf
          refine lv_aload_n hx hb dX9_request_195 rfl (lv_at hl 2 rfl) ?_
          refine z_getr hx hb hts hinRX9 hown B 65 0 66 rfl rfl rfl (by decide) (by decide +kernel) rfl dX9_request_196 ?_
          refine lv_bipush (v := (27 : Int32)) hx hb dX9_request_199 (by decide) ?_
          refine lv_iload hx hb dX9_request_201 (lv_at hl 1 rfl) ?_
          refine lv_iadd hx hb dX9_request_203 ?_
          refine lv_iload hx hb dX9_request_204 (lv_at hl 5 rfl) ?_
          obtain ⟨hg, hf⟩ := zg_some hf
          refine z_iast hx hb B 66 rfl (zin_ok hg) dX9_request_206 (fun H locs B => ?_)
          exact L207  _ _ _ _ _ _ _ hf B (lv_sub hl [2, 4, 1, 0] rfl)
      · have hf := zif_f hc hf
        refine lv_aload_n hx hb dX9_request_137 rfl (lv_at hl 0 rfl) ?_
        refine z_getr hx hb hts hinRX9 hown B 65 0 66 rfl rfl rfl (by decide) (by decide +kernel) rfl dX9_request_138 ?_
        refine lv_sipush (v := (163 : Int32)) hx hb dX9_request_141 (by decide) ?_
        refine lv_iload hx hb dX9_request_144 (lv_at hl 4 rfl) ?_
        refine lv_iadd hx hb dX9_request_146 ?_
        refine lv_dup2_11 hx hb dX9_request_147 rfl rfl ?_
        obtain ⟨hg, hf⟩ := zg_some hf
        refine z_iald hx hb B 66 rfl (zin_ok hg) dX9_request_148 ?_
        refine lv_iconst (v := (1 : Int32)) hx hb dX9_request_149 (by decide) ?_
        refine lv_iadd hx hb dX9_request_150 ?_
        obtain ⟨hg, hf⟩ := zg_some hf
        refine z_iast hx hb B 66 rfl (zin_ok hg) dX9_request_151 (fun H locs B => ?_)
        refine lv_aload_n hx hb dX9_request_152 rfl (lv_at hl 0 rfl) ?_
        refine z_getr hx hb hts hinRX9 hown B 65 0 66 rfl rfl rfl (by decide) (by decide +kernel) rfl dX9_request_153 ?_
        refine lv_bipush (v := (79 : Int32)) hx hb dX9_request_156 (by decide) ?_
        refine lv_iload hx hb dX9_request_158 (lv_at hl 4 rfl) ?_
        refine lv_iadd hx hb dX9_request_160 ?_
        obtain ⟨hg, hf⟩ := zg_some hf
        refine z_iald hx hb B 66 rfl (zin_ok hg) dX9_request_161 ?_
        refine lv_istore (lv' := [(6, .int ((zp σ 66 ((163 : Int32) + v6).toNatClampNeg ((σ 66 ((163 : Int32) + v6).toNatClampNeg) + (1 : Int32))) 66 ((79 : Int32) + v6).toNatClampNeg)), (0, .ref (ad 65)), (2, .int v2), (3, .int v3), (4, .int v4)]) hx hb dX9_request_162 hl (by decide) rfl (fun ls hl => ?_)
        refine lv_goto (tgt := 132) hx hb dX9_request_164 (by decide) ?_
        exact ih _ _ _ _ _ _ _ _ hf B (lv_sub hl [1, 2, 3, 4, 0] rfl)
  have L119 : ∀ (σ : zs) (v2 : Int32) (v3 : Int32) (v4 : Int32) (v5 : Int32) (s0 : Int32) (H : Heap) (locs : List Loc) (ls : Array Slot), f_X9_request_119 σ v2 v3 v4 v5 s0 = some (r, σ') → zB A s G (zS nb) ad σ H locs → lv_has ls 8 [(0, .ref (ad 65)), (2, .int v2), (3, .int v3), (4, .int v4), (5, .int v5)] → W p l e (headSpec wsX9_request rm_X9_request).room s m ([.ref (ad 65), .int a1, .int a2, .int a3, .int a4] : List Value).toArray below meth c H locs 0 0 (MQ below (va_Qi (fun r' (_ : Unit) => r' = r) (zPost G (zS nb) ad σ') A) ([.ref (ad 65), .int a1, .int a2, .int a3, .int a4] : List Value).toArray s 0 0 A) (F0 m 119 ls [.int s0, .ref (ad 65)]) := by
    intro σ v2 v3 v4 v5 s0 H locs ls hf B hl
    unfold f_X9_request_119 at hf
    refine z_puti hx hb hts hinRX9 hown tyX9 tyX9_ok nmX9 B 65 3 rfl rfl rfl (by decide) (by decide +kernel) rfl rfl rfl rfl dX9_request_119 (fun H locs B => ?_)
    refine lv_iload hx hb dX9_request_122 (lv_at hl 4 rfl) ?_
    refine lv_if_ne (tgt := 129) hx hb dX9_request_124 (by decide) (fun hc => ?_) (fun hc => ?_)
    · have hf := zif_f hc hf
      refine lv_iload_n hx hb dX9_request_129 rfl (lv_at hl 1 rfl) ?_
      refine lv_istore (lv' := [(6, .int v2), (0, .ref (ad 65)), (2, .int v2), (3, .int v3), (4, .int v4), (5, .int v5)]) hx hb dX9_request_130 hl (by decide) rfl (fun ls hl => ?_)
      exact L132  _ _ _ _ _ _ _ _ _ hf B (lv_sub hl [1, 2, 3, 4, 0] rfl)
    · have hf := zif_t hc hf
      refine lv_iconst (v := (0 : Int32)) hx hb dX9_request_127 (by decide) ?_
      refine W.widen (k := 0) (n := 0) (Nat.le_of_ble_eq_true rfl) (Nat.le_of_ble_eq_true rfl) ?_
      exact z_iret hx hb hr rfl hlocks B hf dX9_request_128
  have L103 : ∀ (σ : zs) (v2 : Int32) (v3 : Int32) (v4 : Int32) (v5 : Int32) (s0 : Int32) (H : Heap) (locs : List Loc) (ls : Array Slot), f_X9_request_103 σ v2 v3 v4 v5 s0 = some (r, σ') → zB A s G (zS nb) ad σ H locs → lv_has ls 8 [(0, .ref (ad 65)), (2, .int v2), (3, .int v3), (4, .int v4), (5, .int v5)] → W p l e (headSpec wsX9_request rm_X9_request).room s m ([.ref (ad 65), .int a1, .int a2, .int a3, .int a4] : List Value).toArray below meth c H locs 0 0 (MQ below (va_Qi (fun r' (_ : Unit) => r' = r) (zPost G (zS nb) ad σ') A) ([.ref (ad 65), .int a1, .int a2, .int a3, .int a4] : List Value).toArray s 0 0 A) (F0 m 103 ls [.int s0, .ref (ad 66)]) := by
    intro σ v2 v3 v4 v5 s0 H locs ls hf B hl
    unfold f_X9_request_103 at hf
    refine lv_dup2_11 hx hb dX9_request_103 rfl rfl ?_
    obtain ⟨hg, hf⟩ := zg_some hf
    refine z_iald hx hb B 66 rfl (zin_ok hg) dX9_request_104 ?_
    refine lv_iconst (v := (1 : Int32)) hx hb dX9_request_105 (by decide) ?_
    refine lv_iadd hx hb dX9_request_106 ?_
    obtain ⟨hg, hf⟩ := zg_some hf
    refine z_iast hx hb B 66 rfl (zin_ok hg) dX9_request_107 (fun H locs B => ?_)
    refine lv_aload_n hx hb dX9_request_108 rfl (lv_at hl 0 rfl) ?_
    refine lv_iload hx hb dX9_request_109 (lv_at hl 4 rfl) ?_
    refine lv_if_eq (tgt := 118) hx hb dX9_request_111 (by decide) (fun hc => ?_) (fun hc => ?_)
    · have hf := zif_t hc hf
      refine lv_iconst (v := (3 : Int32)) hx hb dX9_request_118 (by decide) ?_
      exact L119  _ _ _ _ _ _ _ _ _ hf B (lv_sub hl [0, 1, 2, 3, 4] rfl)
    · have hf := zif_f hc hf
      refine lv_iconst (v := (0 : Int32)) hx hb dX9_request_114 (by decide) ?_
      refine lv_goto (tgt := 119) hx hb dX9_request_115 (by decide) ?_
      exact L119  _ _ _ _ _ _ _ _ _ hf B (lv_sub hl [0, 1, 2, 3, 4] rfl)
  have L85 : ∀ (σ : zs) (v2 : Int32) (v3 : Int32) (v4 : Int32) (v5 : Int32) (s0 : Int32) (s1 : Int32) (H : Heap) (locs : List Loc) (ls : Array Slot), f_X9_request_85 σ v2 v3 v4 v5 s0 s1 = some (r, σ') → zB A s G (zS nb) ad σ H locs → lv_has ls 8 [(0, .ref (ad 65)), (2, .int v2), (3, .int v3), (4, .int v4), (5, .int v5)] → W p l e (headSpec wsX9_request rm_X9_request).room s m ([.ref (ad 65), .int a1, .int a2, .int a3, .int a4] : List Value).toArray below meth c H locs 0 0 (MQ below (va_Qi (fun r' (_ : Unit) => r' = r) (zPost G (zS nb) ad σ') A) ([.ref (ad 65), .int a1, .int a2, .int a3, .int a4] : List Value).toArray s 0 0 A) (F0 m 85 ls [.int s0, .int s1, .ref (ad 65)]) := by
    intro σ v2 v3 v4 v5 s0 s1 H locs ls hf B hl
    unfold f_X9_request_85 at hf
    refine lv_iadd hx hb dX9_request_85 ?_
    obtain ⟨r8, σ9, hu7, hf⟩ := zb_some hf
    refine z_v B (va_runV (As := [.int (s1 + s0)]) (rest := []) ⟨hx, hb, hml, hown, hts⟩ (c_X9_logs l hu7 _) (cwV 1 hts gX9_request_X9_logs rfl rfl rfl (by decide +kernel) ⟨Nat.le_of_ble_eq_true rfl, Nat.le_of_ble_eq_true rfl⟩) (z_preV B rfl rfl) rfl rfl hl.1 rfl (lv_room (Nat.le_of_ble_eq_true rfl)) dX9_request_86 ⟨Nat.le_of_ble_eq_true rfl, Nat.le_of_ble_eq_true rfl⟩) (fun H locs B => ?_)
    refine lv_aload_n hx hb dX9_request_89 rfl (lv_at hl 0 rfl) ?_
    refine z_getr hx hb hts hinRX9 hown B 65 0 66 rfl rfl rfl (by decide) (by decide +kernel) rfl dX9_request_90 ?_
    refine lv_iload hx hb dX9_request_93 (lv_at hl 4 rfl) ?_
    refine lv_if_eq (tgt := 102) hx hb dX9_request_95 (by decide) (fun hc => ?_) (fun hc => ?_)
    · have hf := zif_t hc hf
      refine lv_iconst (v := (5 : Int32)) hx hb dX9_request_102 (by decide) ?_
      exact L103  _ _ _ _ _ _ _ _ _ hf B (lv_sub hl [0, 1, 2, 3, 4] rfl)
    · have hf := zif_f hc hf
      refine lv_iconst (v := (4 : Int32)) hx hb dX9_request_98 (by decide) ?_
      refine lv_goto (tgt := 103) hx hb dX9_request_99 (by decide) ?_
      exact L103  _ _ _ _ _ _ _ _ _ hf B (lv_sub hl [0, 1, 2, 3, 4] rfl)
  have L41 : ∀ (σ : zs) (v1 : Int32) (v2 : Int32) (v3 : Int32) (v4 : Int32) (s0 : Int32) (H : Heap) (locs : List Loc) (ls : Array Slot), f_X9_request_41 σ v1 v2 v3 v4 s0 = some (r, σ') → zB A s G (zS nb) ad σ H locs → lv_has ls 8 [(0, .ref (ad 65)), (1, .int v1), (2, .int v2), (3, .int v3), (4, .int v4)] → W p l e (headSpec wsX9_request rm_X9_request).room s m ([.ref (ad 65), .int a1, .int a2, .int a3, .int a4] : List Value).toArray below meth c H locs 0 0 (MQ below (va_Qi (fun r' (_ : Unit) => r' = r) (zPost G (zS nb) ad σ') A) ([.ref (ad 65), .int a1, .int a2, .int a3, .int a4] : List Value).toArray s 0 0 A) (F0 m 41 ls [.int s0, .ref (ad 65)]) := by
    intro σ v1 v2 v3 v4 s0 H locs ls hf B hl
    unfold f_X9_request_41 at hf
    refine z_puti hx hb hts hinRX9 hown tyX9 tyX9_ok nmX9 B 65 3 rfl rfl rfl (by decide) (by decide +kernel) rfl rfl rfl rfl dX9_request_41 (fun H locs B => ?_)
    refine lv_aload_n hx hb dX9_request_44 rfl (lv_at hl 0 rfl) ?_
    refine z_geti hx hb hts hinRX9 hown B 65 3 rfl rfl rfl (by decide) (by decide +kernel) rfl dX9_request_45 ?_
    refine lv_if_eq (tgt := 53) hx hb dX9_request_48 (by decide) (fun hc => ?_) (fun hc => ?_)
    · have hf := zif_t hc hf
      refine lv_aload_n hx hb dX9_request_53 rfl (lv_at hl 0 rfl) ?_
      refine lv_iload_n hx hb dX9_request_54 rfl (lv_at hl 1 rfl) ?_
      refine lv_iload_n hx hb dX9_request_55 rfl (lv_at hl 2 rfl) ?_
      refine lv_iload_n hx hb dX9_request_56 rfl (lv_at hl 3 rfl) ?_
      refine lv_iload hx hb dX9_request_57 (lv_at hl 4 rfl) ?_
      obtain ⟨r5, σ6, hu4, hf⟩ := zb_some hf
      refine z_i B (va_runV (As := [.int v1, .int v2, .int v3, .int v4]) (rest := []) ⟨hx, hb, hml, hown, hts⟩ (c_X9_allows l hu4 _) (cwV 4 hts gX9_request_X9_allows rfl rfl rfl (by decide +kernel) ⟨Nat.le_of_ble_eq_true rfl, Nat.le_of_ble_eq_true rfl⟩) (z_preV B rfl rfl) rfl rfl hl.1 rfl (lv_room (Nat.le_of_ble_eq_true rfl)) dX9_request_59 ⟨Nat.le_of_ble_eq_true rfl, Nat.le_of_ble_eq_true rfl⟩) (fun H locs B => ?_)
      refine lv_istore (lv' := [(5, .int r5), (0, .ref (ad 65)), (1, .int v1), (2, .int v2), (3, .int v3), (4, .int v4)]) hx hb dX9_request_62 hl (by decide) rfl (fun ls hl => ?_)
      refine lv_aload_n hx hb dX9_request_64 rfl (lv_at hl 1 rfl) ?_
      refine lv_sipush (v := (1000 : Int32)) hx hb dX9_request_65 (by decide) ?_
      refine lv_iload_n hx hb dX9_request_68 rfl (lv_at hl 2 rfl) ?_
      refine lv_imul hx hb dX9_request_69 ?_
      refine lv_bipush (v := (10 : Int32)) hx hb dX9_request_70 (by decide) ?_
      refine lv_iload_n hx hb dX9_request_72 rfl (lv_at hl 3 rfl) ?_
      refine lv_imul hx hb dX9_request_73 ?_
      refine lv_iadd hx hb dX9_request_74 ?_
      refine lv_iload hx hb dX9_request_75 (lv_at hl 0 rfl) ?_
      refine lv_if_eq (tgt := 84) hx hb dX9_request_77 (by decide) (fun hc => ?_) (fun hc => ?_)
      · have hf := zif_t hc hf
        refine lv_iconst (v := (0 : Int32)) hx hb dX9_request_84 (by decide) ?_
        exact L85  _ _ _ _ _ _ _ _ _ _ hf B (lv_sub hl [1, 3, 4, 5, 0] rfl)
      · have hf := zif_f hc hf
        refine lv_iconst (v := (1 : Int32)) hx hb dX9_request_80 (by decide) ?_
        refine lv_goto (tgt := 85) hx hb dX9_request_81 (by decide) ?_
        exact L85  _ _ _ _ _ _ _ _ _ _ hf B (lv_sub hl [1, 3, 4, 5, 0] rfl)
    · have hf := zif_f hc hf
      refine lv_iconst (v := (0 : Int32)) hx hb dX9_request_51 (by decide) ?_
      refine W.widen (k := 0) (n := 0) (Nat.le_of_ble_eq_true rfl) (Nat.le_of_ble_eq_true rfl) ?_
      exact z_iret hx hb hr rfl hlocks B hf dX9_request_52
  unfold f_X9_request at hf
  refine lv_aload_n hx hb dX9_request_0 rfl (lv_at hl 0 rfl) ?_
  refine lv_iload_n hx hb dX9_request_1 rfl (lv_at hl 1 rfl) ?_
  obtain ⟨r2, σ3, hu1, hf⟩ := zb_some hf
  refine z_i B (va_runS (As := [.int a1]) (rest := [.ref (ad 65)]) ⟨hx, hb, hml, hown, hts⟩ (c_X9_isSubject l hu1 _) (va_cwS 1 hts gX9_request_X9_isSubject rfl rfl rfl (by decide +kernel) ⟨Nat.le_of_ble_eq_true rfl, Nat.le_of_ble_eq_true rfl⟩) (z_preS B) rfl rfl hl.1 rfl (lv_room (Nat.le_of_ble_eq_true rfl)) dX9_request_2 ⟨Nat.le_of_ble_eq_true rfl, Nat.le_of_ble_eq_true rfl⟩) (fun H locs B => ?_)
  refine lv_if_eq (tgt := 16) hx hb dX9_request_5 (by decide) (fun hc => ?_) (fun hc => ?_)
  · have hf := zif_t hc hf
    refine lv_iconst (v := (1 : Int32)) hx hb dX9_request_16 (by decide) ?_
    refine lv_goto (tgt := 41) hx hb dX9_request_17 (by decide) ?_
    exact L41  _ _ _ _ _ _ _ _ _ hf B (lv_sub hl [0, 1, 2, 3, 4] rfl)
  · have hf := zif_f hc hf
    refine lv_aload_n hx hb dX9_request_8 rfl (lv_at hl 0 rfl) ?_
    refine lv_iload_n hx hb dX9_request_9 rfl (lv_at hl 2 rfl) ?_
    obtain ⟨r11, σ12, hu10, hf⟩ := zb_some hf
    refine z_i B (va_runV (As := [.int a2]) (rest := [.ref (ad 65)]) ⟨hx, hb, hml, hown, hts⟩ (c_X9_isToken l hu10 _) (cwV 1 hts gX9_request_X9_isToken rfl rfl rfl (by decide +kernel) ⟨Nat.le_of_ble_eq_true rfl, Nat.le_of_ble_eq_true rfl⟩) (z_preV B rfl rfl) rfl rfl hl.1 rfl (lv_room (Nat.le_of_ble_eq_true rfl)) dX9_request_10 ⟨Nat.le_of_ble_eq_true rfl, Nat.le_of_ble_eq_true rfl⟩) (fun H locs B => ?_)
    refine lv_if_ne (tgt := 20) hx hb dX9_request_13 (by decide) (fun hc => ?_) (fun hc => ?_)
    · have hf := zif_f hc hf
      refine lv_iload_n hx hb dX9_request_20 rfl (lv_at hl 3 rfl) ?_
      refine lv_iconst (v := (1 : Int32)) hx hb dX9_request_21 (by decide) ?_
      refine lv_icmp_eq (tgt := 36) hx hb dX9_request_22 (by decide) (fun hc => ?_) (fun hc => ?_)
      · have hf := zif_t hc hf
        refine lv_iconst (v := (0 : Int32)) hx hb dX9_request_36 (by decide) ?_
        refine lv_goto (tgt := 41) hx hb dX9_request_37 (by decide) ?_
        exact L41  _ _ _ _ _ _ _ _ _ hf B (lv_sub hl [0, 1, 2, 3, 4] rfl)
      · have hf := zif_f hc hf
        refine lv_iload_n hx hb dX9_request_25 rfl (lv_at hl 3 rfl) ?_
        refine lv_iconst (v := (2 : Int32)) hx hb dX9_request_26 (by decide) ?_
        refine lv_icmp_eq (tgt := 36) hx hb dX9_request_27 (by decide) (fun hc => ?_) (fun hc => ?_)
        · have hf := zif_t hc hf
          refine lv_iconst (v := (0 : Int32)) hx hb dX9_request_36 (by decide) ?_
          refine lv_goto (tgt := 41) hx hb dX9_request_37 (by decide) ?_
          exact L41  _ _ _ _ _ _ _ _ _ hf B (lv_sub hl [0, 1, 2, 3, 4] rfl)
        · have hf := zif_f hc hf
          refine lv_iload_n hx hb dX9_request_30 rfl (lv_at hl 3 rfl) ?_
          refine lv_bipush (v := (8 : Int32)) hx hb dX9_request_31 (by decide) ?_
          refine lv_icmp_ne (tgt := 40) hx hb dX9_request_33 (by decide) (fun hc => ?_) (fun hc => ?_)
          · have hf := zif_f hc hf
            refine lv_iconst (v := (2 : Int32)) hx hb dX9_request_40 (by decide) ?_
            exact L41  _ _ _ _ _ _ _ _ _ hf B (lv_sub hl [0, 1, 2, 3, 4] rfl)
          · have hf := zif_t hc hf
            refine lv_iconst (v := (0 : Int32)) hx hb dX9_request_36 (by decide) ?_
            refine lv_goto (tgt := 41) hx hb dX9_request_37 (by decide) ?_
            exact L41  _ _ _ _ _ _ _ _ _ hf B (lv_sub hl [0, 1, 2, 3, 4] rfl)
    · have hf := zif_t hc hf
      refine lv_iconst (v := (1 : Int32)) hx hb dX9_request_16 (by decide) ?_
      refine lv_goto (tgt := 41) hx hb dX9_request_17 (by decide) ?_
      exact L41  _ _ _ _ _ _ _ _ _ hf B (lv_sub hl [0, 1, 2, 3, 4] rfl)
theorem dX9_object_0 : decode cX9_object 0 = .ok (.aload_n 0, 1) := by decide +kernel
theorem dX9_object_1 : decode cX9_object 1 = .ok (.iload_n 1, 1) := by decide +kernel
theorem dX9_object_2 : decode cX9_object 2 = .ok (.invokestatic 82, 3) := by decide +kernel
theorem dX9_object_5 : decode cX9_object 5 = .ok (.ifCond .ne 7, 3) := by decide +kernel
theorem dX9_object_8 : decode cX9_object 8 = .ok (.iconst 1, 1) := by decide +kernel
theorem dX9_object_9 : decode cX9_object 9 = .ok (.goto 17, 3) := by decide +kernel
theorem dX9_object_12 : decode cX9_object 12 = .ok (.iload_n 2, 1) := by decide +kernel
theorem dX9_object_13 : decode cX9_object 13 = .ok (.iconst 0, 1) := by decide +kernel
theorem dX9_object_14 : decode cX9_object 14 = .ok (.iconst 2, 1) := by decide +kernel
theorem dX9_object_15 : decode cX9_object 15 = .ok (.invokestatic 44, 3) := by decide +kernel
theorem dX9_object_18 : decode cX9_object 18 = .ok (.ifCond .eq 7, 3) := by decide +kernel
theorem dX9_object_21 : decode cX9_object 21 = .ok (.iconst 0, 1) := by decide +kernel
theorem dX9_object_22 : decode cX9_object 22 = .ok (.goto 4, 3) := by decide +kernel
theorem dX9_object_25 : decode cX9_object 25 = .ok (.iconst 2, 1) := by decide +kernel
theorem dX9_object_26 : decode cX9_object 26 = .ok (.putfield 41, 3) := by decide +kernel
theorem dX9_object_29 : decode cX9_object 29 = .ok (.aload_n 0, 1) := by decide +kernel
theorem dX9_object_30 : decode cX9_object 30 = .ok (.getfield 41, 3) := by decide +kernel
theorem dX9_object_33 : decode cX9_object 33 = .ok (.ifCond .eq 5, 3) := by decide +kernel
theorem dX9_object_36 : decode cX9_object 36 = .ok (.iconst 0, 1) := by decide +kernel
theorem dX9_object_37 : decode cX9_object 37 = .ok (.ireturn, 1) := by decide +kernel
theorem dX9_object_38 : decode cX9_object 38 = .ok (.iconst 0, 1) := by decide +kernel
theorem dX9_object_39 : decode cX9_object 39 = .ok (.istore_n 3, 1) := by decide +kernel
theorem dX9_object_40 : decode cX9_object 40 = .ok (.iconst 0, 1) := by decide +kernel
theorem dX9_object_41 : decode cX9_object 41 = .ok (.istore 4, 2) := by decide +kernel
theorem dX9_object_43 : decode cX9_object 43 = .ok (.iload 4, 2) := by decide +kernel
theorem dX9_object_45 : decode cX9_object 45 = .ok (.aload_n 0, 1) := by decide +kernel
theorem dX9_object_46 : decode cX9_object 46 = .ok (.getfield 9, 3) := by decide +kernel
theorem dX9_object_49 : decode cX9_object 49 = .ok (.iconst 1, 1) := by decide +kernel
theorem dX9_object_50 : decode cX9_object 50 = .ok (.iaload, 1) := by decide +kernel
theorem dX9_object_51 : decode cX9_object 51 = .ok (.if_icmp .ge 31, 3) := by decide +kernel
theorem dX9_object_54 : decode cX9_object 54 = .ok (.iload_n 3, 1) := by decide +kernel
theorem dX9_object_55 : decode cX9_object 55 = .ok (.aload_n 0, 1) := by decide +kernel
theorem dX9_object_56 : decode cX9_object 56 = .ok (.getfield 9, 3) := by decide +kernel
theorem dX9_object_59 : decode cX9_object 59 = .ok (.bipush 51, 2) := by decide +kernel
theorem dX9_object_61 : decode cX9_object 61 = .ok (.iload 4, 2) := by decide +kernel
theorem dX9_object_63 : decode cX9_object 63 = .ok (.iadd, 1) := by decide +kernel
theorem dX9_object_64 : decode cX9_object 64 = .ok (.iaload, 1) := by decide +kernel
theorem dX9_object_65 : decode cX9_object 65 = .ok (.iload_n 1, 1) := by decide +kernel
theorem dX9_object_66 : decode cX9_object 66 = .ok (.if_icmp .ne 7, 3) := by decide +kernel
theorem dX9_object_69 : decode cX9_object 69 = .ok (.iconst 1, 1) := by decide +kernel
theorem dX9_object_70 : decode cX9_object 70 = .ok (.goto 4, 3) := by decide +kernel
theorem dX9_object_73 : decode cX9_object 73 = .ok (.iconst 0, 1) := by decide +kernel
theorem dX9_object_74 : decode cX9_object 74 = .ok (.iadd, 1) := by decide +kernel
theorem dX9_object_75 : decode cX9_object 75 = .ok (.istore_n 3, 1) := by decide +kernel
theorem dX9_object_76 : decode cX9_object 76 = .ok (.iinc 4 1, 3) := by decide +kernel
theorem dX9_object_79 : decode cX9_object 79 = .ok (.goto (-36), 3) := by decide +kernel
theorem dX9_object_82 : decode cX9_object 82 = .ok (.iload_n 2, 1) := by decide +kernel
theorem dX9_object_83 : decode cX9_object 83 = .ok (.ifCond .ne 15, 3) := by decide +kernel
theorem dX9_object_86 : decode cX9_object 86 = .ok (.aload_n 0, 1) := by decide +kernel
theorem dX9_object_87 : decode cX9_object 87 = .ok (.getfield 9, 3) := by decide +kernel
theorem dX9_object_90 : decode cX9_object 90 = .ok (.bipush 27, 2) := by decide +kernel
theorem dX9_object_92 : decode cX9_object 92 = .ok (.iload_n 1, 1) := by decide +kernel
theorem dX9_object_93 : decode cX9_object 93 = .ok (.iadd, 1) := by decide +kernel
theorem dX9_object_94 : decode cX9_object 94 = .ok (.iaload, 1) := by decide +kernel
theorem dX9_object_95 : decode cX9_object 95 = .ok (.goto 21, 3) := by decide +kernel
theorem dX9_object_98 : decode cX9_object 98 = .ok (.iload_n 2, 1) := by decide +kernel
theorem dX9_object_99 : decode cX9_object 99 = .ok (.iconst 1, 1) := by decide +kernel
theorem dX9_object_100 : decode cX9_object 100 = .ok (.if_icmp .ne 15, 3) := by decide +kernel
theorem dX9_object_103 : decode cX9_object 103 = .ok (.aload_n 0, 1) := by decide +kernel
theorem dX9_object_104 : decode cX9_object 104 = .ok (.getfield 9, 3) := by decide +kernel
theorem dX9_object_107 : decode cX9_object 107 = .ok (.bipush 39, 2) := by decide +kernel
theorem dX9_object_109 : decode cX9_object 109 = .ok (.iload_n 1, 1) := by decide +kernel
theorem dX9_object_110 : decode cX9_object 110 = .ok (.iadd, 1) := by decide +kernel
theorem dX9_object_111 : decode cX9_object 111 = .ok (.iaload, 1) := by decide +kernel
theorem dX9_object_112 : decode cX9_object 112 = .ok (.goto 4, 3) := by decide +kernel
theorem dX9_object_115 : decode cX9_object 115 = .ok (.iload_n 3, 1) := by decide +kernel
theorem dX9_object_116 : decode cX9_object 116 = .ok (.ireturn, 1) := by decide +kernel
set_option maxRecDepth 20000 in
theorem ggX9_object_X9_isObject : GoodIn wsX9_object wsX9_isObject := goodIn_r _ [6, 7, 8, 5, 9] (by decide +kernel) (by decide +kernel)
set_option maxRecDepth 20000 in
theorem gX9_object_X9_isObject : GoodIn wsX9_object (va_wsS RX9 82 yX9_isObject wsX9_isObject) := goodIn_app (goodIn_of _ (by decide +kernel)) ggX9_object_X9_isObject
set_option maxRecDepth 20000 in
theorem ggX9_object_X9_isIn : GoodIn wsX9_object wsX9_isIn := goodIn_r _ [9] (by decide +kernel) (by decide +kernel)
set_option maxRecDepth 20000 in
theorem gX9_object_X9_isIn : GoodIn wsX9_object (va_wsS RX9 44 yX9_isIn wsX9_isIn) := goodIn_app (goodIn_of _ (by decide +kernel)) ggX9_object_X9_isIn
def rm_X9_object : Room := { frames := 3, cells := 0, slots := 0, locals := 58 }
set_option maxHeartbeats 4000000 in
set_option maxRecDepth 100000 in
theorem c_X9_object (l : Launch) {nb : Nat} {G : zG} {ad : Nat → Nat} {σ σ' : zs} {a1 a2 : Int32} {r : Int32} (hf : f_X9_object σ a1 a2 = some (r, σ')) : zMi l yX9_object wsX9_object rm_X9_object G (zS nb) ad σ [.ref (ad 65), .int a1, .int a2] r σ' := by
  intro sz
  refine Met.ofW (cc := cX9_object) (maxL := 5) (ret := (some .int)) (by decide) rfl ?_
  intro p e s m args below meth c s₁ B hml hv
  obtain ⟨rfl, hsz, hv⟩ := hv
  have hx := B.exec
  have hb := B.bytes
  have hr := B.returns
  have hts := atoms_spec (ws := wsX9_object) B.pre
  have hown : s.vm.findClass RX9 = some m.cls := findClass_of_methodNamed B.named
  have hlocks := B.notSynchronized
  subst hsz
  have B := zB_start hv
  have hinRX9 : ∀ w ∈ wsX90, w ∈ wsX9_object := by decide +kernel
  have hl := lv_entry ([.ref (ad 65), .int a1, .int a2]) (n := 5) (Nat.le_of_ble_eq_true rfl)
  rw [lg_entry_eq]
  generalize (lg_sl ([.ref (ad 65), .int a1, .int a2]) ++ List.replicate (5 - (lg_sl ([.ref (ad 65), .int a1, .int a2])).length) Slot.unset).toArray = ls at hl ⊢
  have hl : lv_has ls 5 [(0, .ref (ad 65)), (1, .int a1), (2, .int a2)] := hl
  generalize hAe : zA ad (zS nb).length s.heap.size = A at B ⊢
  have L74 : ∀ (K43 : zs → Int32 → Int32 → Int32 → Int32 → Option (Int32 × zs)) (hK43 : ∀ (σ : zs) (v1 : Int32) (v2 : Int32) (v3 : Int32) (v4 : Int32) (H : Heap) (locs : List Loc) (ls : Array Slot), K43 σ v1 v2 v3 v4 = some (r, σ') → zB A s G (zS nb) ad σ H locs → lv_has ls 5 [(0, .ref (ad 65)), (1, .int v1), (2, .int v2), (3, .int v3), (4, .int v4)] → W p l e (headSpec wsX9_object rm_X9_object).room s m ([.ref (ad 65), .int a1, .int a2] : List Value).toArray below meth c H locs 0 0 (MQ below (va_Qi (fun r' (_ : Unit) => r' = r) (zPost G (zS nb) ad σ') A) ([.ref (ad 65), .int a1, .int a2] : List Value).toArray s 0 0 A) (F0 m 43 ls [])) (σ : zs) (v1 : Int32) (v2 : Int32) (v4 : Int32) (s0 : Int32) (s1 : Int32) (H : Heap) (locs : List Loc) (ls : Array Slot), f_X9_object_74 K43 σ v1 v2 v4 s0 s1 = some (r, σ') → zB A s G (zS nb) ad σ H locs → lv_has ls 5 [(0, .ref (ad 65)), (1, .int v1), (2, .int v2), (4, .int v4)] → W p l e (headSpec wsX9_object rm_X9_object).room s m ([.ref (ad 65), .int a1, .int a2] : List Value).toArray below meth c H locs 0 0 (MQ below (va_Qi (fun r' (_ : Unit) => r' = r) (zPost G (zS nb) ad σ') A) ([.ref (ad 65), .int a1, .int a2] : List Value).toArray s 0 0 A) (F0 m 74 ls [.int s0, .int s1]) := by
    intro K43 hK43 σ v1 v2 v4 s0 s1 H locs ls hf B hl
    unfold f_X9_object_74 at hf
    refine lv_iadd hx hb dX9_object_74 ?_
    refine lv_istore_n (lv' := [(3, .int (s1 + s0)), (0, .ref (ad 65)), (1, .int v1), (2, .int v2), (4, .int v4)]) hx hb dX9_object_75 rfl hl (by decide) rfl (fun ls hl => ?_)
    refine lv_iinc (v := (v4 + (1 : Int32))) (lv' := [(4, .int (v4 + (1 : Int32))), (3, .int (s1 + s0)), (0, .ref (ad 65)), (1, .int v1), (2, .int v2)]) hx hb dX9_object_76 hl (k := 4) rfl (zc1 (by decide)) (by decide) rfl (fun ls hl => ?_)
    refine lv_goto (tgt := 43) hx hb dX9_object_79 (by decide) ?_
    exact hK43 _ _ _ _ _ _ _ _ hf B (lv_sub hl [2, 3, 4, 1, 0] rfl)
  have L43 : ∀ (n : Nat) (σ : zs) (v1 : Int32) (v2 : Int32) (v3 : Int32) (v4 : Int32) (H : Heap) (locs : List Loc) (ls : Array Slot), zlp4 (f_X9_object_43) n σ v1 v2 v3 v4 = some (r, σ') → zB A s G (zS nb) ad σ H locs → lv_has ls 5 [(0, .ref (ad 65)), (1, .int v1), (2, .int v2), (3, .int v3), (4, .int v4)] → W p l e (headSpec wsX9_object rm_X9_object).room s m ([.ref (ad 65), .int a1, .int a2] : List Value).toArray below meth c H locs 0 0 (MQ below (va_Qi (fun r' (_ : Unit) => r' = r) (zPost G (zS nb) ad σ') A) ([.ref (ad 65), .int a1, .int a2] : List Value).toArray s 0 0 A) (F0 m 43 ls []) := by
    intro n
    induction n with
    | zero =>
      intro σ v1 v2 v3 v4 H locs ls hf
      cases hf
    | succ n ih =>
      intro σ v1 v2 v3 v4 H locs ls hf B hl
      have hf : f_X9_object_43 (zlp4 (f_X9_object_43) n) σ v1 v2 v3 v4 = some (r, σ') := hf
      unfold f_X9_object_43 at hf
      refine lv_iload hx hb dX9_object_43 (lv_at hl 4 rfl) ?_
      refine lv_aload_n hx hb dX9_object_45 rfl (lv_at hl 0 rfl) ?_
      refine z_getr hx hb hts hinRX9 hown B 65 0 66 rfl rfl rfl (by decide) (by decide +kernel) rfl dX9_object_46 ?_
      refine lv_iconst (v := (1 : Int32)) hx hb dX9_object_49 (by decide) ?_
      obtain ⟨hg, hf⟩ := zg_some hf
      refine z_iald hx hb B 66 rfl (zin_ok hg) dX9_object_50 ?_
      refine lv_icmp_ge (tgt := 82) hx hb dX9_object_51 (by decide) (fun hc => ?_) (fun hc => ?_)
      · have hf := zif_t hc hf
        refine lv_iload_n hx hb dX9_object_82 rfl (lv_at hl 2 rfl) ?_
        refine lv_if_ne (tgt := 98) hx hb dX9_object_83 (by decide) (fun hc => ?_) (fun hc => ?_)
        · have hf := zif_f hc hf
          refine lv_iload_n hx hb dX9_object_98 rfl (lv_at hl 2 rfl) ?_
          refine lv_iconst (v := (1 : Int32)) hx hb dX9_object_99 (by decide) ?_
          refine lv_icmp_ne (tgt := 115) hx hb dX9_object_100 (by decide) (fun hc => ?_) (fun hc => ?_)
          · have hf := zif_f hc hf
            refine lv_iload_n hx hb dX9_object_115 rfl (lv_at hl 3 rfl) ?_
            refine W.widen (k := 0) (n := 0) (Nat.le_of_ble_eq_true rfl) (Nat.le_of_ble_eq_true rfl) ?_
            exact z_iret hx hb hr rfl hlocks B hf dX9_object_116
          · have hf := zif_t hc hf
            refine lv_aload_n hx hb dX9_object_103 rfl (lv_at hl 0 rfl) ?_
            refine z_getr hx hb hts hinRX9 hown B 65 0 66 rfl rfl rfl (by decide) (by decide +kernel) rfl dX9_object_104 ?_
            refine lv_bipush (v := (39 : Int32)) hx hb dX9_object_107 (by decide) ?_
            refine lv_iload_n hx hb dX9_object_109 rfl (lv_at hl 1 rfl) ?_
            refine lv_iadd hx hb dX9_object_110 ?_
            obtain ⟨hg, hf⟩ := zg_some hf
            refine z_iald hx hb B 66 rfl (zin_ok hg) dX9_object_111 ?_
            refine lv_goto (tgt := 116) hx hb dX9_object_112 (by decide) ?_
            refine W.widen (k := 0) (n := 0) (Nat.le_of_ble_eq_true rfl) (Nat.le_of_ble_eq_true rfl) ?_
            exact z_iret hx hb hr rfl hlocks B hf dX9_object_116
        · have hf := zif_t hc hf
          refine lv_aload_n hx hb dX9_object_86 rfl (lv_at hl 0 rfl) ?_
          refine z_getr hx hb hts hinRX9 hown B 65 0 66 rfl rfl rfl (by decide) (by decide +kernel) rfl dX9_object_87 ?_
          refine lv_bipush (v := (27 : Int32)) hx hb dX9_object_90 (by decide) ?_
          refine lv_iload_n hx hb dX9_object_92 rfl (lv_at hl 1 rfl) ?_
          refine lv_iadd hx hb dX9_object_93 ?_
          obtain ⟨hg, hf⟩ := zg_some hf
          refine z_iald hx hb B 66 rfl (zin_ok hg) dX9_object_94 ?_
          refine lv_goto (tgt := 116) hx hb dX9_object_95 (by decide) ?_
          refine W.widen (k := 0) (n := 0) (Nat.le_of_ble_eq_true rfl) (Nat.le_of_ble_eq_true rfl) ?_
          exact z_iret hx hb hr rfl hlocks B hf dX9_object_116
      · have hf := zif_f hc hf
        refine lv_iload_n hx hb dX9_object_54 rfl (lv_at hl 3 rfl) ?_
        refine lv_aload_n hx hb dX9_object_55 rfl (lv_at hl 0 rfl) ?_
        refine z_getr hx hb hts hinRX9 hown B 65 0 66 rfl rfl rfl (by decide) (by decide +kernel) rfl dX9_object_56 ?_
        refine lv_bipush (v := (51 : Int32)) hx hb dX9_object_59 (by decide) ?_
        refine lv_iload hx hb dX9_object_61 (lv_at hl 4 rfl) ?_
        refine lv_iadd hx hb dX9_object_63 ?_
        obtain ⟨hg, hf⟩ := zg_some hf
        refine z_iald hx hb B 66 rfl (zin_ok hg) dX9_object_64 ?_
        refine lv_iload_n hx hb dX9_object_65 rfl (lv_at hl 1 rfl) ?_
        refine lv_icmp_ne (tgt := 73) hx hb dX9_object_66 (by decide) (fun hc => ?_) (fun hc => ?_)
        · have hf := zif_f hc hf
          refine lv_iconst (v := (0 : Int32)) hx hb dX9_object_73 (by decide) ?_
          exact L74 _ ih  _ _ _ _ _ _ _ _ _ hf B (lv_sub hl [0, 1, 2, 4] rfl)
        · have hf := zif_t hc hf
          refine lv_iconst (v := (1 : Int32)) hx hb dX9_object_69 (by decide) ?_
          refine lv_goto (tgt := 74) hx hb dX9_object_70 (by decide) ?_
          exact L74 _ ih  _ _ _ _ _ _ _ _ _ hf B (lv_sub hl [0, 1, 2, 4] rfl)
  have L26 : ∀ (σ : zs) (v1 : Int32) (v2 : Int32) (s0 : Int32) (H : Heap) (locs : List Loc) (ls : Array Slot), f_X9_object_26 σ v1 v2 s0 = some (r, σ') → zB A s G (zS nb) ad σ H locs → lv_has ls 5 [(0, .ref (ad 65)), (1, .int v1), (2, .int v2)] → W p l e (headSpec wsX9_object rm_X9_object).room s m ([.ref (ad 65), .int a1, .int a2] : List Value).toArray below meth c H locs 0 0 (MQ below (va_Qi (fun r' (_ : Unit) => r' = r) (zPost G (zS nb) ad σ') A) ([.ref (ad 65), .int a1, .int a2] : List Value).toArray s 0 0 A) (F0 m 26 ls [.int s0, .ref (ad 65)]) := by
    intro σ v1 v2 s0 H locs ls hf B hl
    unfold f_X9_object_26 at hf
    refine z_puti hx hb hts hinRX9 hown tyX9 tyX9_ok nmX9 B 65 3 rfl rfl rfl (by decide) (by decide +kernel) rfl rfl rfl rfl dX9_object_26 (fun H locs B => ?_)
    refine lv_aload_n hx hb dX9_object_29 rfl (lv_at hl 0 rfl) ?_
    refine z_geti hx hb hts hinRX9 hown B 65 3 rfl rfl rfl (by decide) (by decide +kernel) rfl dX9_object_30 ?_
    refine lv_if_eq (tgt := 38) hx hb dX9_object_33 (by decide) (fun hc => ?_) (fun hc => ?_)
    · have hf := zif_t hc hf
      refine lv_iconst (v := (0 : Int32)) hx hb dX9_object_38 (by decide) ?_
      refine lv_istore_n (lv' := [(3, .int (0 : Int32)), (0, .ref (ad 65)), (1, .int v1), (2, .int v2)]) hx hb dX9_object_39 rfl hl (by decide) rfl (fun ls hl => ?_)
      refine lv_iconst (v := (0 : Int32)) hx hb dX9_object_40 (by decide) ?_
      refine lv_istore (lv' := [(4, .int (0 : Int32)), (3, .int (0 : Int32)), (0, .ref (ad 65)), (1, .int v1), (2, .int v2)]) hx hb dX9_object_41 hl (by decide) rfl (fun ls hl => ?_)
      exact L43  _ _ _ _ _ _ _ _ _ hf B (lv_sub hl [2, 3, 4, 1, 0] rfl)
    · have hf := zif_f hc hf
      refine lv_iconst (v := (0 : Int32)) hx hb dX9_object_36 (by decide) ?_
      refine W.widen (k := 0) (n := 0) (Nat.le_of_ble_eq_true rfl) (Nat.le_of_ble_eq_true rfl) ?_
      exact z_iret hx hb hr rfl hlocks B hf dX9_object_37
  unfold f_X9_object at hf
  refine lv_aload_n hx hb dX9_object_0 rfl (lv_at hl 0 rfl) ?_
  refine lv_iload_n hx hb dX9_object_1 rfl (lv_at hl 1 rfl) ?_
  obtain ⟨r2, σ3, hu1, hf⟩ := zb_some hf
  refine z_i B (va_runS (As := [.int a1]) (rest := [.ref (ad 65)]) ⟨hx, hb, hml, hown, hts⟩ (c_X9_isObject l hu1 _) (va_cwS 1 hts gX9_object_X9_isObject rfl rfl rfl (by decide +kernel) ⟨Nat.le_of_ble_eq_true rfl, Nat.le_of_ble_eq_true rfl⟩) (z_preS B) rfl rfl hl.1 rfl (lv_room (Nat.le_of_ble_eq_true rfl)) dX9_object_2 ⟨Nat.le_of_ble_eq_true rfl, Nat.le_of_ble_eq_true rfl⟩) (fun H locs B => ?_)
  refine lv_if_ne (tgt := 12) hx hb dX9_object_5 (by decide) (fun hc => ?_) (fun hc => ?_)
  · have hf := zif_f hc hf
    refine lv_iload_n hx hb dX9_object_12 rfl (lv_at hl 2 rfl) ?_
    refine lv_iconst (v := (0 : Int32)) hx hb dX9_object_13 (by decide) ?_
    refine lv_iconst (v := (2 : Int32)) hx hb dX9_object_14 (by decide) ?_
    obtain ⟨r5, σ6, hu4, hf⟩ := zb_some hf
    refine z_i B (va_runS (As := [.int a2, .int (0 : Int32), .int (2 : Int32)]) (rest := [.ref (ad 65)]) ⟨hx, hb, hml, hown, hts⟩ (c_X9_isIn l hu4 _) (va_cwS 3 hts gX9_object_X9_isIn rfl rfl rfl (by decide +kernel) ⟨Nat.le_of_ble_eq_true rfl, Nat.le_of_ble_eq_true rfl⟩) (z_preS B) rfl rfl hl.1 rfl (lv_room (Nat.le_of_ble_eq_true rfl)) dX9_object_15 ⟨Nat.le_of_ble_eq_true rfl, Nat.le_of_ble_eq_true rfl⟩) (fun H locs B => ?_)
    refine lv_if_eq (tgt := 25) hx hb dX9_object_18 (by decide) (fun hc => ?_) (fun hc => ?_)
    · have hf := zif_t hc hf
      refine lv_iconst (v := (2 : Int32)) hx hb dX9_object_25 (by decide) ?_
      exact L26  _ _ _ _ _ _ _ hf B (lv_sub hl [0, 1, 2] rfl)
    · have hf := zif_f hc hf
      refine lv_iconst (v := (0 : Int32)) hx hb dX9_object_21 (by decide) ?_
      refine lv_goto (tgt := 26) hx hb dX9_object_22 (by decide) ?_
      exact L26  _ _ _ _ _ _ _ hf B (lv_sub hl [0, 1, 2] rfl)
  · have hf := zif_t hc hf
    refine lv_iconst (v := (1 : Int32)) hx hb dX9_object_8 (by decide) ?_
    refine lv_goto (tgt := 26) hx hb dX9_object_9 (by decide) ?_
    exact L26  _ _ _ _ _ _ _ hf B (lv_sub hl [0, 1, 2] rfl)
