theorem dX6_expireAtPresent_0 : decode cX6_expireAtPresent 0 = .ok (.iconst 0, 1) := by decide +kernel
theorem dX6_expireAtPresent_1 : decode cX6_expireAtPresent 1 = .ok (.istore_n 1, 1) := by decide +kernel
theorem dX6_expireAtPresent_2 : decode cX6_expireAtPresent 2 = .ok (.iload_n 1, 1) := by decide +kernel
theorem dX6_expireAtPresent_3 : decode cX6_expireAtPresent 3 = .ok (.aload_n 0, 1) := by decide +kernel
theorem dX6_expireAtPresent_4 : decode cX6_expireAtPresent 4 = .ok (.getfield 12, 3) := by decide +kernel
theorem dX6_expireAtPresent_7 : decode cX6_expireAtPresent 7 = .ok (.getfield 63, 3) := by decide +kernel
theorem dX6_expireAtPresent_10 : decode cX6_expireAtPresent 10 = .ok (.if_icmp .ge 56, 3) := by decide +kernel
theorem dX6_expireAtPresent_13 : decode cX6_expireAtPresent 13 = .ok (.aload_n 0, 1) := by decide +kernel
theorem dX6_expireAtPresent_14 : decode cX6_expireAtPresent 14 = .ok (.getfield 12, 3) := by decide +kernel
theorem dX6_expireAtPresent_17 : decode cX6_expireAtPresent 17 = .ok (.iload_n 1, 1) := by decide +kernel
theorem dX6_expireAtPresent_18 : decode cX6_expireAtPresent 18 = .ok (.invokevirtual 66, 3) := by decide +kernel
theorem dX6_expireAtPresent_21 : decode cX6_expireAtPresent 21 = .ok (.getfield 70, 3) := by decide +kernel
theorem dX6_expireAtPresent_24 : decode cX6_expireAtPresent 24 = .ok (.aload_n 0, 1) := by decide +kernel
theorem dX6_expireAtPresent_25 : decode cX6_expireAtPresent 25 = .ok (.getfield 56, 3) := by decide +kernel
theorem dX6_expireAtPresent_28 : decode cX6_expireAtPresent 28 = .ok (.if_icmp .ne 32, 3) := by decide +kernel
theorem dX6_expireAtPresent_31 : decode cX6_expireAtPresent 31 = .ok (.aload_n 0, 1) := by decide +kernel
theorem dX6_expireAtPresent_32 : decode cX6_expireAtPresent 32 = .ok (.getfield 60, 3) := by decide +kernel
theorem dX6_expireAtPresent_35 : decode cX6_expireAtPresent 35 = .ok (.bipush 28, 2) := by decide +kernel
theorem dX6_expireAtPresent_37 : decode cX6_expireAtPresent 37 = .ok (.if_icmp .ge 23, 3) := by decide +kernel
theorem dX6_expireAtPresent_40 : decode cX6_expireAtPresent 40 = .ok (.aload_n 0, 1) := by decide +kernel
theorem dX6_expireAtPresent_41 : decode cX6_expireAtPresent 41 = .ok (.getfield 39, 3) := by decide +kernel
theorem dX6_expireAtPresent_44 : decode cX6_expireAtPresent 44 = .ok (.aload_n 0, 1) := by decide +kernel
theorem dX6_expireAtPresent_45 : decode cX6_expireAtPresent 45 = .ok (.getfield 60, 3) := by decide +kernel
theorem dX6_expireAtPresent_48 : decode cX6_expireAtPresent 48 = .ok (.iload_n 1, 1) := by decide +kernel
theorem dX6_expireAtPresent_49 : decode cX6_expireAtPresent 49 = .ok (.iastore, 1) := by decide +kernel
theorem dX6_expireAtPresent_50 : decode cX6_expireAtPresent 50 = .ok (.aload_n 0, 1) := by decide +kernel
theorem dX6_expireAtPresent_51 : decode cX6_expireAtPresent 51 = .ok (.dup, 1) := by decide +kernel
theorem dX6_expireAtPresent_52 : decode cX6_expireAtPresent 52 = .ok (.getfield 60, 3) := by decide +kernel
theorem dX6_expireAtPresent_55 : decode cX6_expireAtPresent 55 = .ok (.iconst 1, 1) := by decide +kernel
theorem dX6_expireAtPresent_56 : decode cX6_expireAtPresent 56 = .ok (.iadd, 1) := by decide +kernel
theorem dX6_expireAtPresent_57 : decode cX6_expireAtPresent 57 = .ok (.putfield 60, 3) := by decide +kernel
theorem dX6_expireAtPresent_60 : decode cX6_expireAtPresent 60 = .ok (.iinc 1 1, 3) := by decide +kernel
theorem dX6_expireAtPresent_63 : decode cX6_expireAtPresent 63 = .ok (.goto (-61), 3) := by decide +kernel
theorem dX6_expireAtPresent_66 : decode cX6_expireAtPresent 66 = .ok (.return_, 1) := by decide +kernel
set_option maxRecDepth 20000 in
theorem ggX6_expireAtPresent_X7_limitsOf : GoodIn wsX6_expireAtPresent wsX7_limitsOf := goodIn_ca (goodIn_r _ [11, 12, 13, 14, 15, 16, 17, 18, 19, 20, 21, 22, 23, 24, 25, 26, 27, 28, 29, 30, 31, 32, 33, 34, 35, 36, 37, 38, 39, 40, 41, 42, 43, 44, 53, 54, 55, 56, 57, 58, 59, 60, 61, 62, 63, 64, 65, 66, 67, 68, 69, 70] (by decide +kernel) (by decide +kernel)) (goodIn_sub (fun _ h => List.mem_cons_of_mem _ (List.mem_append_right _ h)) (by decide +kernel))
set_option maxRecDepth 20000 in
theorem gX6_expireAtPresent_X7_limitsOf : GoodIn wsX6_expireAtPresent (wsV RX6 66 RX7 yX7_limitsOf wsX7_limitsOf) := goodIn_app (goodIn_of _ (by decide +kernel)) ggX6_expireAtPresent_X7_limitsOf
def rm_X6_expireAtPresent : Room := { frames := 4, cells := 0, slots := 0, locals := 89 }
set_option maxHeartbeats 4000000 in
set_option maxRecDepth 100000 in
theorem c_X6_expireAtPresent (l : Launch) {nb : Nat} {G : zG} {ad : Nat → Nat} {σ σ' : zs} {r : Int32} (hf : f_X6_expireAtPresent σ  = some (r, σ')) : zMv l yX6_expireAtPresent wsX6_expireAtPresent rm_X6_expireAtPresent G (zS nb) ad σ [.ref (ad 1)] σ' := by
  intro sz
  refine Met.ofW (cc := cX6_expireAtPresent) (maxL := 2) (ret := none) (by decide) rfl ?_
  intro p e s m args below meth c s₁ B hml hv
  obtain ⟨rfl, hsz, hv⟩ := hv
  have hx := B.exec
  have hb := B.bytes
  have hr := B.returns
  have hts := atoms_spec (ws := wsX6_expireAtPresent) B.pre
  have hown : s.vm.findClass RX6 = some m.cls := findClass_of_methodNamed B.named
  have hlocks := B.notSynchronized
  subst hsz
  have B := zB_start hv
  have hinRX3 : ∀ w ∈ wsX30, w ∈ wsX6_expireAtPresent := by decide +kernel
  have hinRX6 : ∀ w ∈ wsX60, w ∈ wsX6_expireAtPresent := by decide +kernel
  have hinRX7 : ∀ w ∈ wsX70, w ∈ wsX6_expireAtPresent := by decide +kernel
  have hl := lv_entry ([.ref (ad 1)]) (n := 2) (Nat.le_of_ble_eq_true rfl)
  rw [lg_entry_eq]
  generalize (lg_sl ([.ref (ad 1)]) ++ List.replicate (2 - (lg_sl ([.ref (ad 1)])).length) Slot.unset).toArray = ls at hl ⊢
  have hl : lv_has ls 2 [(0, .ref (ad 1))] := hl
  generalize hAe : zA ad (zS nb).length s.heap.size = A at B ⊢
  have L2 : ∀ (n : Nat) (σ : zs) (v1 : Int32) (H : Heap) (locs : List Loc) (ls : Array Slot), zlp1 (f_X6_expireAtPresent_2) n σ v1 = some (r, σ') → zB A s G (zS nb) ad σ H locs → lv_has ls 2 [(0, .ref (ad 1)), (1, .int v1)] → W p l e (headSpec wsX6_expireAtPresent rm_X6_expireAtPresent).room s m ([.ref (ad 1)] : List Value).toArray below meth c H locs 0 0 (MQ below (va_Qv (fun (_ : Unit) => True) (zPost G (zS nb) ad σ') A) ([.ref (ad 1)] : List Value).toArray s 0 0 A) (F0 m 2 ls []) := by
    intro n
    induction n with
    | zero =>
      intro σ v1 H locs ls hf
      cases hf
    | succ n ih =>
      intro σ v1 H locs ls hf B hl
      have hf : f_X6_expireAtPresent_2 (zlp1 (f_X6_expireAtPresent_2) n) σ v1 = some (r, σ') := hf
      unfold f_X6_expireAtPresent_2 at hf
      refine lv_iload_n hx hb dX6_expireAtPresent_2 rfl (lv_at hl 1 rfl) ?_
      refine lv_aload_n hx hb dX6_expireAtPresent_3 rfl (lv_at hl 0 rfl) ?_
      refine z_getr hx hb hts hinRX6 hown B 1 0 2 rfl rfl rfl (by decide) (by decide +kernel) rfl dX6_expireAtPresent_4 ?_
      refine z_geti hx hb hts hinRX7 hown B 2 0 rfl rfl rfl (by decide) (by decide +kernel) rfl dX6_expireAtPresent_7 ?_
      refine lv_icmp_ge (tgt := 66) hx hb dX6_expireAtPresent_10 (by decide) (fun hc => ?_) (fun hc => ?_)
      · have hf := zif_t hc hf
        refine W.widen (k := 0) (n := 0) (Nat.le_of_ble_eq_true rfl) (Nat.le_of_ble_eq_true rfl) ?_
        exact z_vret hx hb hr hlocks B hf dX6_expireAtPresent_66
      · have hf := zif_f hc hf
        refine lv_aload_n hx hb dX6_expireAtPresent_13 rfl (lv_at hl 0 rfl) ?_
        refine z_getr hx hb hts hinRX6 hown B 1 0 2 rfl rfl rfl (by decide) (by decide +kernel) rfl dX6_expireAtPresent_14 ?_
        refine lv_iload_n hx hb dX6_expireAtPresent_17 rfl (lv_at hl 1 rfl) ?_
        obtain ⟨r2, σ3, hu1, hf⟩ := zb_some hf
        refine z_r B (va_runV (As := [.int v1]) (rest := []) ⟨hx, hb, hml, hown, hts⟩ (c_X7_limitsOf l hu1 _) (cwV 1 hts gX6_expireAtPresent_X7_limitsOf rfl rfl rfl (by decide +kernel) ⟨Nat.le_of_ble_eq_true rfl, Nat.le_of_ble_eq_true rfl⟩) (z_preV B rfl rfl) rfl rfl hl.1 rfl (lv_room (Nat.le_of_ble_eq_true rfl)) dX6_expireAtPresent_18 ⟨Nat.le_of_ble_eq_true rfl, Nat.le_of_ble_eq_true rfl⟩) (fun H locs B => ?_)
        refine z_geti hx hb hts hinRX3 hown B 13 1 rfl rfl rfl (by decide) (by decide +kernel) rfl dX6_expireAtPresent_21 ?_
        refine lv_aload_n hx hb dX6_expireAtPresent_24 rfl (lv_at hl 0 rfl) ?_
        refine z_geti hx hb hts hinRX6 hown B 1 5 rfl rfl rfl (by decide) (by decide +kernel) rfl dX6_expireAtPresent_25 ?_
        refine lv_icmp_ne (tgt := 60) hx hb dX6_expireAtPresent_28 (by decide) (fun hc => ?_) (fun hc => ?_)
        · have hf := zif_f hc hf
          refine lv_iinc (v := (v1 + (1 : Int32))) (lv' := [(1, .int (v1 + (1 : Int32))), (0, .ref (ad 1))]) hx hb dX6_expireAtPresent_60 hl (k := 1) rfl (zc1 (by decide)) (by decide) rfl (fun ls hl => ?_)
          refine lv_goto (tgt := 2) hx hb dX6_expireAtPresent_63 (by decide) ?_
          exact ih _ _ _ _ _ hf B (lv_sub hl [1, 0] rfl)
        · have hf := zif_t hc hf
          refine lv_aload_n hx hb dX6_expireAtPresent_31 rfl (lv_at hl 0 rfl) ?_
          refine z_geti hx hb hts hinRX6 hown B 1 7 rfl rfl rfl (by decide) (by decide +kernel) rfl dX6_expireAtPresent_32 ?_
          refine lv_bipush (v := (28 : Int32)) hx hb dX6_expireAtPresent_35 (by decide) ?_
          refine lv_icmp_ge (tgt := 60) hx hb dX6_expireAtPresent_37 (by decide) (fun hc => ?_) (fun hc => ?_)
          · have hf := zif_t hc hf
            refine lv_iinc (v := (v1 + (1 : Int32))) (lv' := [(1, .int (v1 + (1 : Int32))), (0, .ref (ad 1))]) hx hb dX6_expireAtPresent_60 hl (k := 1) rfl (zc1 (by decide)) (by decide) rfl (fun ls hl => ?_)
            refine lv_goto (tgt := 2) hx hb dX6_expireAtPresent_63 (by decide) ?_
            exact ih _ _ _ _ _ hf B (lv_sub hl [1, 0] rfl)
          · have hf := zif_f hc hf
            refine lv_aload_n hx hb dX6_expireAtPresent_40 rfl (lv_at hl 0 rfl) ?_
            refine z_getr hx hb hts hinRX6 hown B 1 6 24 rfl rfl rfl (by decide) (by decide +kernel) rfl dX6_expireAtPresent_41 ?_
            refine lv_aload_n hx hb dX6_expireAtPresent_44 rfl (lv_at hl 0 rfl) ?_
            refine z_geti hx hb hts hinRX6 hown B 1 7 rfl rfl rfl (by decide) (by decide +kernel) rfl dX6_expireAtPresent_45 ?_
            refine lv_iload_n hx hb dX6_expireAtPresent_48 rfl (lv_at hl 1 rfl) ?_
            obtain ⟨hg, hf⟩ := zg_some hf
            refine z_iast hx hb B 24 rfl (zin_ok hg) dX6_expireAtPresent_49 (fun H locs B => ?_)
            refine lv_aload_n hx hb dX6_expireAtPresent_50 rfl (lv_at hl 0 rfl) ?_
            refine lv_dup hx hb dX6_expireAtPresent_51 rfl ?_
            refine z_geti hx hb hts hinRX6 hown B 1 7 rfl rfl rfl (by decide) (by decide +kernel) rfl dX6_expireAtPresent_52 ?_
            refine lv_iconst (v := (1 : Int32)) hx hb dX6_expireAtPresent_55 (by decide) ?_
            refine lv_iadd hx hb dX6_expireAtPresent_56 ?_
            refine z_puti hx hb hts hinRX6 hown tyX6 tyX6_ok nmX6 B 1 7 rfl rfl rfl (by decide) (by decide +kernel) rfl rfl rfl rfl dX6_expireAtPresent_57 (fun H locs B => ?_)
            refine lv_iinc (v := (v1 + (1 : Int32))) (lv' := [(1, .int (v1 + (1 : Int32))), (0, .ref (ad 1))]) hx hb dX6_expireAtPresent_60 hl (k := 1) rfl (zc1 (by decide)) (by decide) rfl (fun ls hl => ?_)
            refine lv_goto (tgt := 2) hx hb dX6_expireAtPresent_63 (by decide) ?_
            exact ih _ _ _ _ _ hf B (lv_sub hl [1, 0] rfl)
  unfold f_X6_expireAtPresent at hf
  refine lv_iconst (v := (0 : Int32)) hx hb dX6_expireAtPresent_0 (by decide) ?_
  refine lv_istore_n (lv' := [(1, .int (0 : Int32)), (0, .ref (ad 1))]) hx hb dX6_expireAtPresent_1 rfl hl (by decide) rfl (fun ls hl => ?_)
  exact L2  _ _ _ _ _ _ hf B (lv_sub hl [1, 0] rfl)
theorem dX7_startToken_0 : decode cX7_startToken 0 = .ok (.aload_n 0, 1) := by decide +kernel
theorem dX7_startToken_1 : decode cX7_startToken 1 = .ok (.getfield 21, 3) := by decide +kernel
theorem dX7_startToken_4 : decode cX7_startToken 4 = .ok (.iload_n 1, 1) := by decide +kernel
theorem dX7_startToken_5 : decode cX7_startToken 5 = .ok (.iconst 1, 1) := by decide +kernel
theorem dX7_startToken_6 : decode cX7_startToken 6 = .ok (.iload_n 2, 1) := by decide +kernel
theorem dX7_startToken_7 : decode cX7_startToken 7 = .ok (.ishl, 1) := by decide +kernel
theorem dX7_startToken_8 : decode cX7_startToken 8 = .ok (.iastore, 1) := by decide +kernel
theorem dX7_startToken_9 : decode cX7_startToken 9 = .ok (.aload_n 0, 1) := by decide +kernel
theorem dX7_startToken_10 : decode cX7_startToken 10 = .ok (.getfield 24, 3) := by decide +kernel
theorem dX7_startToken_13 : decode cX7_startToken 13 = .ok (.iload_n 1, 1) := by decide +kernel
theorem dX7_startToken_14 : decode cX7_startToken 14 = .ok (.iconst 0, 1) := by decide +kernel
theorem dX7_startToken_15 : decode cX7_startToken 15 = .ok (.iastore, 1) := by decide +kernel
theorem dX7_startToken_16 : decode cX7_startToken 16 = .ok (.aload_n 0, 1) := by decide +kernel
theorem dX7_startToken_17 : decode cX7_startToken 17 = .ok (.getfield 27, 3) := by decide +kernel
theorem dX7_startToken_20 : decode cX7_startToken 20 = .ok (.iload_n 1, 1) := by decide +kernel
theorem dX7_startToken_21 : decode cX7_startToken 21 = .ok (.iconst (-1), 1) := by decide +kernel
theorem dX7_startToken_22 : decode cX7_startToken 22 = .ok (.iastore, 1) := by decide +kernel
theorem dX7_startToken_23 : decode cX7_startToken 23 = .ok (.aload_n 0, 1) := by decide +kernel
theorem dX7_startToken_24 : decode cX7_startToken 24 = .ok (.getfield 30, 3) := by decide +kernel
theorem dX7_startToken_27 : decode cX7_startToken 27 = .ok (.iload_n 1, 1) := by decide +kernel
theorem dX7_startToken_28 : decode cX7_startToken 28 = .ok (.iconst 0, 1) := by decide +kernel
theorem dX7_startToken_29 : decode cX7_startToken 29 = .ok (.iastore, 1) := by decide +kernel
theorem dX7_startToken_30 : decode cX7_startToken 30 = .ok (.aload_n 0, 1) := by decide +kernel
theorem dX7_startToken_31 : decode cX7_startToken 31 = .ok (.dup, 1) := by decide +kernel
theorem dX7_startToken_32 : decode cX7_startToken 32 = .ok (.getfield 49, 3) := by decide +kernel
theorem dX7_startToken_35 : decode cX7_startToken 35 = .ok (.iconst 1, 1) := by decide +kernel
theorem dX7_startToken_36 : decode cX7_startToken 36 = .ok (.iadd, 1) := by decide +kernel
theorem dX7_startToken_37 : decode cX7_startToken 37 = .ok (.putfield 49, 3) := by decide +kernel
theorem dX7_startToken_40 : decode cX7_startToken 40 = .ok (.return_, 1) := by decide +kernel
def rm_X7_startToken : Room := { frames := 1, cells := 0, slots := 0, locals := 16 }
set_option maxHeartbeats 4000000 in
set_option maxRecDepth 100000 in
theorem c_X7_startToken (l : Launch) {nb : Nat} {G : zG} {ad : Nat → Nat} {σ σ' : zs} {a1 a2 : Int32} {r : Int32} (hf : f_X7_startToken σ a1 a2 = some (r, σ')) : zMv l yX7_startToken wsX7_startToken rm_X7_startToken G (zS nb) ad σ [.ref (ad 2), .int a1, .int a2] σ' := by
  intro sz
  refine Met.ofW (cc := cX7_startToken) (maxL := 3) (ret := none) (by decide) rfl ?_
  intro p e s m args below meth c s₁ B hml hv
  obtain ⟨rfl, hsz, hv⟩ := hv
  have hx := B.exec
  have hb := B.bytes
  have hr := B.returns
  have hts := atoms_spec (ws := wsX7_startToken) B.pre
  have hown : s.vm.findClass RX7 = some m.cls := findClass_of_methodNamed B.named
  have hlocks := B.notSynchronized
  subst hsz
  have B := zB_start hv
  have hinRX7 : ∀ w ∈ wsX70, w ∈ wsX7_startToken := by decide +kernel
  have hl := lv_entry ([.ref (ad 2), .int a1, .int a2]) (n := 3) (Nat.le_of_ble_eq_true rfl)
  rw [lg_entry_eq]
  generalize (lg_sl ([.ref (ad 2), .int a1, .int a2]) ++ List.replicate (3 - (lg_sl ([.ref (ad 2), .int a1, .int a2])).length) Slot.unset).toArray = ls at hl ⊢
  have hl : lv_has ls 3 [(0, .ref (ad 2)), (1, .int a1), (2, .int a2)] := hl
  generalize hAe : zA ad (zS nb).length s.heap.size = A at B ⊢
  unfold f_X7_startToken at hf
  refine lv_aload_n hx hb dX7_startToken_0 rfl (lv_at hl 0 rfl) ?_
  refine z_getr hx hb hts hinRX7 hown B 2 4 6 rfl rfl rfl (by decide) (by decide +kernel) rfl dX7_startToken_1 ?_
  refine lv_iload_n hx hb dX7_startToken_4 rfl (lv_at hl 1 rfl) ?_
  refine lv_iconst (v := (1 : Int32)) hx hb dX7_startToken_5 (by decide) ?_
  refine lv_iload_n hx hb dX7_startToken_6 rfl (lv_at hl 2 rfl) ?_
  refine lv_ishl hx hb dX7_startToken_7 ?_
  obtain ⟨hg, hf⟩ := zg_some hf
  refine z_iast hx hb B 6 rfl (zin_ok hg) dX7_startToken_8 (fun H locs B => ?_)
  refine lv_aload_n hx hb dX7_startToken_9 rfl (lv_at hl 0 rfl) ?_
  refine z_getr hx hb hts hinRX7 hown B 2 5 7 rfl rfl rfl (by decide) (by decide +kernel) rfl dX7_startToken_10 ?_
  refine lv_iload_n hx hb dX7_startToken_13 rfl (lv_at hl 1 rfl) ?_
  refine lv_iconst (v := (0 : Int32)) hx hb dX7_startToken_14 (by decide) ?_
  obtain ⟨hg, hf⟩ := zg_some hf
  refine z_iast hx hb B 7 rfl (zin_ok hg) dX7_startToken_15 (fun H locs B => ?_)
  refine lv_aload_n hx hb dX7_startToken_16 rfl (lv_at hl 0 rfl) ?_
  refine z_getr hx hb hts hinRX7 hown B 2 6 8 rfl rfl rfl (by decide) (by decide +kernel) rfl dX7_startToken_17 ?_
  refine lv_iload_n hx hb dX7_startToken_20 rfl (lv_at hl 1 rfl) ?_
  refine lv_iconst (v := (-1 : Int32)) hx hb dX7_startToken_21 (by decide) ?_
  obtain ⟨hg, hf⟩ := zg_some hf
  refine z_iast hx hb B 8 rfl (zin_ok hg) dX7_startToken_22 (fun H locs B => ?_)
  refine lv_aload_n hx hb dX7_startToken_23 rfl (lv_at hl 0 rfl) ?_
  refine z_getr hx hb hts hinRX7 hown B 2 7 9 rfl rfl rfl (by decide) (by decide +kernel) rfl dX7_startToken_24 ?_
  refine lv_iload_n hx hb dX7_startToken_27 rfl (lv_at hl 1 rfl) ?_
  refine lv_iconst (v := (0 : Int32)) hx hb dX7_startToken_28 (by decide) ?_
  obtain ⟨hg, hf⟩ := zg_some hf
  refine z_iast hx hb B 9 rfl (zin_ok hg) dX7_startToken_29 (fun H locs B => ?_)
  refine lv_aload_n hx hb dX7_startToken_30 rfl (lv_at hl 0 rfl) ?_
  refine lv_dup hx hb dX7_startToken_31 rfl ?_
  refine z_geti hx hb hts hinRX7 hown B 2 0 rfl rfl rfl (by decide) (by decide +kernel) rfl dX7_startToken_32 ?_
  refine lv_iconst (v := (1 : Int32)) hx hb dX7_startToken_35 (by decide) ?_
  refine lv_iadd hx hb dX7_startToken_36 ?_
  refine z_puti hx hb hts hinRX7 hown tyX7 tyX7_ok nmX7 B 2 0 rfl rfl rfl (by decide) (by decide +kernel) rfl rfl rfl rfl dX7_startToken_37 (fun H locs B => ?_)
  refine W.widen (k := 0) (n := 0) (Nat.le_of_ble_eq_true rfl) (Nat.le_of_ble_eq_true rfl) ?_
  exact z_vret hx hb hr hlocks B hf dX7_startToken_40
theorem dX7_makeRoot_0 : decode cX7_makeRoot 0 = .ok (.aload_n 0, 1) := by decide +kernel
theorem dX7_makeRoot_1 : decode cX7_makeRoot 1 = .ok (.getfield 49, 3) := by decide +kernel
theorem dX7_makeRoot_4 : decode cX7_makeRoot 4 = .ok (.istore_n 3, 1) := by decide +kernel
theorem dX7_makeRoot_5 : decode cX7_makeRoot 5 = .ok (.aload_n 0, 1) := by decide +kernel
theorem dX7_makeRoot_6 : decode cX7_makeRoot 6 = .ok (.getfield 9, 3) := by decide +kernel
theorem dX7_makeRoot_9 : decode cX7_makeRoot 9 = .ok (.iload_n 3, 1) := by decide +kernel
theorem dX7_makeRoot_10 : decode cX7_makeRoot 10 = .ok (.iload_n 2, 1) := by decide +kernel
theorem dX7_makeRoot_11 : decode cX7_makeRoot 11 = .ok (.iastore, 1) := by decide +kernel
theorem dX7_makeRoot_12 : decode cX7_makeRoot 12 = .ok (.aload_n 0, 1) := by decide +kernel
theorem dX7_makeRoot_13 : decode cX7_makeRoot 13 = .ok (.getfield 15, 3) := by decide +kernel
theorem dX7_makeRoot_16 : decode cX7_makeRoot 16 = .ok (.iload_n 3, 1) := by decide +kernel
theorem dX7_makeRoot_17 : decode cX7_makeRoot 17 = .ok (.iconst 1, 1) := by decide +kernel
theorem dX7_makeRoot_18 : decode cX7_makeRoot 18 = .ok (.iastore, 1) := by decide +kernel
theorem dX7_makeRoot_19 : decode cX7_makeRoot 19 = .ok (.aload_n 0, 1) := by decide +kernel
theorem dX7_makeRoot_20 : decode cX7_makeRoot 20 = .ok (.getfield 18, 3) := by decide +kernel
theorem dX7_makeRoot_23 : decode cX7_makeRoot 23 = .ok (.iload_n 3, 1) := by decide +kernel
theorem dX7_makeRoot_24 : decode cX7_makeRoot 24 = .ok (.bipush 7, 2) := by decide +kernel
theorem dX7_makeRoot_26 : decode cX7_makeRoot 26 = .ok (.imul, 1) := by decide +kernel
theorem dX7_makeRoot_27 : decode cX7_makeRoot 27 = .ok (.iload_n 3, 1) := by decide +kernel
theorem dX7_makeRoot_28 : decode cX7_makeRoot 28 = .ok (.iastore, 1) := by decide +kernel
theorem dX7_makeRoot_29 : decode cX7_makeRoot 29 = .ok (.aload_n 0, 1) := by decide +kernel
theorem dX7_makeRoot_30 : decode cX7_makeRoot 30 = .ok (.iload_n 3, 1) := by decide +kernel
theorem dX7_makeRoot_31 : decode cX7_makeRoot 31 = .ok (.iload_n 1, 1) := by decide +kernel
theorem dX7_makeRoot_32 : decode cX7_makeRoot 32 = .ok (.invokevirtual 57, 3) := by decide +kernel
theorem dX7_makeRoot_35 : decode cX7_makeRoot 35 = .ok (.iload_n 3, 1) := by decide +kernel
theorem dX7_makeRoot_36 : decode cX7_makeRoot 36 = .ok (.ireturn, 1) := by decide +kernel
set_option maxRecDepth 20000 in
theorem ggX7_makeRoot_X7_startToken : GoodIn wsX7_makeRoot wsX7_startToken := goodIn_ca (goodIn_r _ [9, 10, 11, 12, 13, 1, 14, 15, 16, 17, 18, 19, 20, 21, 22, 23, 24, 25] (by decide +kernel) (by decide +kernel)) (goodIn_sub (fun _ h => List.mem_cons_of_mem _ (List.mem_append_right _ h)) (by decide +kernel))
set_option maxRecDepth 20000 in
theorem gX7_makeRoot_X7_startToken : GoodIn wsX7_makeRoot (wsV RX7 57 RX7 yX7_startToken wsX7_startToken) := goodIn_app (goodIn_of _ (by decide +kernel)) ggX7_makeRoot_X7_startToken
def rm_X7_makeRoot : Room := { frames := 2, cells := 0, slots := 0, locals := 38 }
set_option maxHeartbeats 4000000 in
set_option maxRecDepth 100000 in
theorem c_X7_makeRoot (l : Launch) {nb : Nat} {G : zG} {ad : Nat → Nat} {σ σ' : zs} {a1 a2 : Int32} {r : Int32} (hf : f_X7_makeRoot σ a1 a2 = some (r, σ')) : zMi l yX7_makeRoot wsX7_makeRoot rm_X7_makeRoot G (zS nb) ad σ [.ref (ad 2), .int a1, .int a2] r σ' := by
  intro sz
  refine Met.ofW (cc := cX7_makeRoot) (maxL := 4) (ret := (some .int)) (by decide) rfl ?_
  intro p e s m args below meth c s₁ B hml hv
  obtain ⟨rfl, hsz, hv⟩ := hv
  have hx := B.exec
  have hb := B.bytes
  have hr := B.returns
  have hts := atoms_spec (ws := wsX7_makeRoot) B.pre
  have hown : s.vm.findClass RX7 = some m.cls := findClass_of_methodNamed B.named
  have hlocks := B.notSynchronized
  subst hsz
  have B := zB_start hv
  have hinRX7 : ∀ w ∈ wsX70, w ∈ wsX7_makeRoot := by decide +kernel
  have hl := lv_entry ([.ref (ad 2), .int a1, .int a2]) (n := 4) (Nat.le_of_ble_eq_true rfl)
  rw [lg_entry_eq]
  generalize (lg_sl ([.ref (ad 2), .int a1, .int a2]) ++ List.replicate (4 - (lg_sl ([.ref (ad 2), .int a1, .int a2])).length) Slot.unset).toArray = ls at hl ⊢
  have hl : lv_has ls 4 [(0, .ref (ad 2)), (1, .int a1), (2, .int a2)] := hl
  generalize hAe : zA ad (zS nb).length s.heap.size = A at B ⊢
  unfold f_X7_makeRoot at hf
  refine lv_aload_n hx hb dX7_makeRoot_0 rfl (lv_at hl 0 rfl) ?_
  refine z_geti hx hb hts hinRX7 hown B 2 0 rfl rfl rfl (by decide) (by decide +kernel) rfl dX7_makeRoot_1 ?_
  refine lv_istore_n (lv' := [(3, .int (σ 2 0)), (0, .ref (ad 2)), (1, .int a1), (2, .int a2)]) hx hb dX7_makeRoot_4 rfl hl (by decide) rfl (fun ls hl => ?_)
  refine lv_aload_n hx hb dX7_makeRoot_5 rfl (lv_at hl 1 rfl) ?_
  refine z_getr hx hb hts hinRX7 hown B 2 1 3 rfl rfl rfl (by decide) (by decide +kernel) rfl dX7_makeRoot_6 ?_
  refine lv_iload_n hx hb dX7_makeRoot_9 rfl (lv_at hl 0 rfl) ?_
  refine lv_iload_n hx hb dX7_makeRoot_10 rfl (lv_at hl 3 rfl) ?_
  obtain ⟨hg, hf⟩ := zg_some hf
  refine z_iast hx hb B 3 rfl (zin_ok hg) dX7_makeRoot_11 (fun H locs B => ?_)
  refine lv_aload_n hx hb dX7_makeRoot_12 rfl (lv_at hl 1 rfl) ?_
  refine z_getr hx hb hts hinRX7 hown B 2 2 4 rfl rfl rfl (by decide) (by decide +kernel) rfl dX7_makeRoot_13 ?_
  refine lv_iload_n hx hb dX7_makeRoot_16 rfl (lv_at hl 0 rfl) ?_
  refine lv_iconst (v := (1 : Int32)) hx hb dX7_makeRoot_17 (by decide) ?_
  obtain ⟨hg, hf⟩ := zg_some hf
  refine z_iast hx hb B 4 rfl (zin_ok hg) dX7_makeRoot_18 (fun H locs B => ?_)
  refine lv_aload_n hx hb dX7_makeRoot_19 rfl (lv_at hl 1 rfl) ?_
  refine z_getr hx hb hts hinRX7 hown B 2 3 5 rfl rfl rfl (by decide) (by decide +kernel) rfl dX7_makeRoot_20 ?_
  refine lv_iload_n hx hb dX7_makeRoot_23 rfl (lv_at hl 0 rfl) ?_
  refine lv_bipush (v := (7 : Int32)) hx hb dX7_makeRoot_24 (by decide) ?_
  refine lv_imul hx hb dX7_makeRoot_26 ?_
  refine lv_iload_n hx hb dX7_makeRoot_27 rfl (lv_at hl 0 rfl) ?_
  obtain ⟨hg, hf⟩ := zg_some hf
  refine z_iast hx hb B 5 rfl (zin_ok hg) dX7_makeRoot_28 (fun H locs B => ?_)
  refine lv_aload_n hx hb dX7_makeRoot_29 rfl (lv_at hl 1 rfl) ?_
  refine lv_iload_n hx hb dX7_makeRoot_30 rfl (lv_at hl 0 rfl) ?_
  refine lv_iload_n hx hb dX7_makeRoot_31 rfl (lv_at hl 2 rfl) ?_
  obtain ⟨r2, σ3, hu1, hf⟩ := zb_some hf
  refine z_v B (va_runV (As := [.int (σ 2 0), .int a1]) (rest := []) ⟨hx, hb, hml, hown, hts⟩ (c_X7_startToken l hu1 _) (cwV 2 hts gX7_makeRoot_X7_startToken rfl rfl rfl (by decide +kernel) ⟨Nat.le_of_ble_eq_true rfl, Nat.le_of_ble_eq_true rfl⟩) (z_preV B rfl rfl) rfl rfl hl.1 rfl (lv_room (Nat.le_of_ble_eq_true rfl)) dX7_makeRoot_32 ⟨Nat.le_of_ble_eq_true rfl, Nat.le_of_ble_eq_true rfl⟩) (fun H locs B => ?_)
  refine lv_iload_n hx hb dX7_makeRoot_35 rfl (lv_at hl 0 rfl) ?_
  refine W.widen (k := 0) (n := 0) (Nat.le_of_ble_eq_true rfl) (Nat.le_of_ble_eq_true rfl) ?_
  exact z_iret hx hb hr rfl hlocks B hf dX7_makeRoot_36
theorem dX7_makeDerived_0 : decode cX7_makeDerived 0 = .ok (.aload_n 0, 1) := by decide +kernel
theorem dX7_makeDerived_1 : decode cX7_makeDerived 1 = .ok (.getfield 49, 3) := by decide +kernel
theorem dX7_makeDerived_4 : decode cX7_makeDerived 4 = .ok (.istore_n 3, 1) := by decide +kernel
theorem dX7_makeDerived_5 : decode cX7_makeDerived 5 = .ok (.aload_n 0, 1) := by decide +kernel
theorem dX7_makeDerived_6 : decode cX7_makeDerived 6 = .ok (.getfield 9, 3) := by decide +kernel
theorem dX7_makeDerived_9 : decode cX7_makeDerived 9 = .ok (.iload_n 3, 1) := by decide +kernel
theorem dX7_makeDerived_10 : decode cX7_makeDerived 10 = .ok (.aload_n 0, 1) := by decide +kernel
theorem dX7_makeDerived_11 : decode cX7_makeDerived 11 = .ok (.getfield 9, 3) := by decide +kernel
theorem dX7_makeDerived_14 : decode cX7_makeDerived 14 = .ok (.iload_n 2, 1) := by decide +kernel
theorem dX7_makeDerived_15 : decode cX7_makeDerived 15 = .ok (.iaload, 1) := by decide +kernel
theorem dX7_makeDerived_16 : decode cX7_makeDerived 16 = .ok (.iastore, 1) := by decide +kernel
theorem dX7_makeDerived_17 : decode cX7_makeDerived 17 = .ok (.aload_n 0, 1) := by decide +kernel
theorem dX7_makeDerived_18 : decode cX7_makeDerived 18 = .ok (.getfield 15, 3) := by decide +kernel
theorem dX7_makeDerived_21 : decode cX7_makeDerived 21 = .ok (.iload_n 3, 1) := by decide +kernel
theorem dX7_makeDerived_22 : decode cX7_makeDerived 22 = .ok (.aload_n 0, 1) := by decide +kernel
theorem dX7_makeDerived_23 : decode cX7_makeDerived 23 = .ok (.getfield 15, 3) := by decide +kernel
theorem dX7_makeDerived_26 : decode cX7_makeDerived 26 = .ok (.iload_n 2, 1) := by decide +kernel
theorem dX7_makeDerived_27 : decode cX7_makeDerived 27 = .ok (.iaload, 1) := by decide +kernel
theorem dX7_makeDerived_28 : decode cX7_makeDerived 28 = .ok (.iconst 1, 1) := by decide +kernel
theorem dX7_makeDerived_29 : decode cX7_makeDerived 29 = .ok (.iadd, 1) := by decide +kernel
theorem dX7_makeDerived_30 : decode cX7_makeDerived 30 = .ok (.iastore, 1) := by decide +kernel
theorem dX7_makeDerived_31 : decode cX7_makeDerived 31 = .ok (.aload_n 0, 1) := by decide +kernel
theorem dX7_makeDerived_32 : decode cX7_makeDerived 32 = .ok (.getfield 18, 3) := by decide +kernel
theorem dX7_makeDerived_35 : decode cX7_makeDerived 35 = .ok (.iload_n 2, 1) := by decide +kernel
theorem dX7_makeDerived_36 : decode cX7_makeDerived 36 = .ok (.bipush 7, 2) := by decide +kernel
theorem dX7_makeDerived_38 : decode cX7_makeDerived 38 = .ok (.imul, 1) := by decide +kernel
theorem dX7_makeDerived_39 : decode cX7_makeDerived 39 = .ok (.aload_n 0, 1) := by decide +kernel
theorem dX7_makeDerived_40 : decode cX7_makeDerived 40 = .ok (.getfield 18, 3) := by decide +kernel
theorem dX7_makeDerived_43 : decode cX7_makeDerived 43 = .ok (.iload_n 3, 1) := by decide +kernel
theorem dX7_makeDerived_44 : decode cX7_makeDerived 44 = .ok (.bipush 7, 2) := by decide +kernel
theorem dX7_makeDerived_46 : decode cX7_makeDerived 46 = .ok (.imul, 1) := by decide +kernel
theorem dX7_makeDerived_47 : decode cX7_makeDerived 47 = .ok (.aload_n 0, 1) := by decide +kernel
theorem dX7_makeDerived_48 : decode cX7_makeDerived 48 = .ok (.getfield 15, 3) := by decide +kernel
theorem dX7_makeDerived_51 : decode cX7_makeDerived 51 = .ok (.iload_n 2, 1) := by decide +kernel
theorem dX7_makeDerived_52 : decode cX7_makeDerived 52 = .ok (.iaload, 1) := by decide +kernel
theorem dX7_makeDerived_53 : decode cX7_makeDerived 53 = .ok (.invokestatic 61, 3) := by decide +kernel
theorem dX7_makeDerived_56 : decode cX7_makeDerived 56 = .ok (.aload_n 0, 1) := by decide +kernel
theorem dX7_makeDerived_57 : decode cX7_makeDerived 57 = .ok (.getfield 18, 3) := by decide +kernel
theorem dX7_makeDerived_60 : decode cX7_makeDerived 60 = .ok (.iload_n 3, 1) := by decide +kernel
theorem dX7_makeDerived_61 : decode cX7_makeDerived 61 = .ok (.bipush 7, 2) := by decide +kernel
theorem dX7_makeDerived_63 : decode cX7_makeDerived 63 = .ok (.imul, 1) := by decide +kernel
theorem dX7_makeDerived_64 : decode cX7_makeDerived 64 = .ok (.aload_n 0, 1) := by decide +kernel
theorem dX7_makeDerived_65 : decode cX7_makeDerived 65 = .ok (.getfield 15, 3) := by decide +kernel
theorem dX7_makeDerived_68 : decode cX7_makeDerived 68 = .ok (.iload_n 2, 1) := by decide +kernel
theorem dX7_makeDerived_69 : decode cX7_makeDerived 69 = .ok (.iaload, 1) := by decide +kernel
theorem dX7_makeDerived_70 : decode cX7_makeDerived 70 = .ok (.iadd, 1) := by decide +kernel
theorem dX7_makeDerived_71 : decode cX7_makeDerived 71 = .ok (.iload_n 3, 1) := by decide +kernel
theorem dX7_makeDerived_72 : decode cX7_makeDerived 72 = .ok (.iastore, 1) := by decide +kernel
theorem dX7_makeDerived_73 : decode cX7_makeDerived 73 = .ok (.aload_n 0, 1) := by decide +kernel
theorem dX7_makeDerived_74 : decode cX7_makeDerived 74 = .ok (.iload_n 3, 1) := by decide +kernel
theorem dX7_makeDerived_75 : decode cX7_makeDerived 75 = .ok (.iload_n 1, 1) := by decide +kernel
theorem dX7_makeDerived_76 : decode cX7_makeDerived 76 = .ok (.invokevirtual 57, 3) := by decide +kernel
theorem dX7_makeDerived_79 : decode cX7_makeDerived 79 = .ok (.iload_n 3, 1) := by decide +kernel
theorem dX7_makeDerived_80 : decode cX7_makeDerived 80 = .ok (.ireturn, 1) := by decide +kernel
set_option maxRecDepth 20000 in
theorem ggX7_makeDerived_X7_startToken : GoodIn wsX7_makeDerived wsX7_startToken := goodIn_ca (goodIn_r _ [13, 14, 15, 16, 17, 1, 18, 19, 20, 21, 22, 23, 24, 25, 26, 27, 28, 29] (by decide +kernel) (by decide +kernel)) (goodIn_sub (fun _ h => List.mem_cons_of_mem _ (List.mem_append_right _ h)) (by decide +kernel))
set_option maxRecDepth 20000 in
theorem gX7_makeDerived_X7_startToken : GoodIn wsX7_makeDerived (wsV RX7 57 RX7 yX7_startToken wsX7_startToken) := goodIn_app (goodIn_of _ (by decide +kernel)) ggX7_makeDerived_X7_startToken
def rm_X7_makeDerived : Room := { frames := 2, cells := 0, slots := 0, locals := 200 }
set_option maxHeartbeats 4000000 in
set_option maxRecDepth 100000 in
theorem c_X7_makeDerived (l : Launch) {nb : Nat} {G : zG} {ad : Nat → Nat} {σ σ' : zs} {a1 a2 : Int32} {r : Int32} (hf : f_X7_makeDerived σ a1 a2 = some (r, σ')) : zMi l yX7_makeDerived wsX7_makeDerived rm_X7_makeDerived G (zS nb) ad σ [.ref (ad 2), .int a1, .int a2] r σ' := by
  intro sz
  refine Met.ofW (cc := cX7_makeDerived) (maxL := 4) (ret := (some .int)) (by decide) rfl ?_
  intro p e s m args below meth c s₁ B hml hv
  obtain ⟨rfl, hsz, hv⟩ := hv
  have hx := B.exec
  have hb := B.bytes
  have hr := B.returns
  have hts := atoms_spec (ws := wsX7_makeDerived) B.pre
  have hown : s.vm.findClass RX7 = some m.cls := findClass_of_methodNamed B.named
  have hlocks := B.notSynchronized
  subst hsz
  have B := zB_start hv
  have hinRX7 : ∀ w ∈ wsX70, w ∈ wsX7_makeDerived := by decide +kernel
  have hl := lv_entry ([.ref (ad 2), .int a1, .int a2]) (n := 4) (Nat.le_of_ble_eq_true rfl)
  rw [lg_entry_eq]
  generalize (lg_sl ([.ref (ad 2), .int a1, .int a2]) ++ List.replicate (4 - (lg_sl ([.ref (ad 2), .int a1, .int a2])).length) Slot.unset).toArray = ls at hl ⊢
  have hl : lv_has ls 4 [(0, .ref (ad 2)), (1, .int a1), (2, .int a2)] := hl
  generalize hAe : zA ad (zS nb).length s.heap.size = A at B ⊢
  unfold f_X7_makeDerived at hf
  refine lv_aload_n hx hb dX7_makeDerived_0 rfl (lv_at hl 0 rfl) ?_
  refine z_geti hx hb hts hinRX7 hown B 2 0 rfl rfl rfl (by decide) (by decide +kernel) rfl dX7_makeDerived_1 ?_
  refine lv_istore_n (lv' := [(3, .int (σ 2 0)), (0, .ref (ad 2)), (1, .int a1), (2, .int a2)]) hx hb dX7_makeDerived_4 rfl hl (by decide) rfl (fun ls hl => ?_)
  refine lv_aload_n hx hb dX7_makeDerived_5 rfl (lv_at hl 1 rfl) ?_
  refine z_getr hx hb hts hinRX7 hown B 2 1 3 rfl rfl rfl (by decide) (by decide +kernel) rfl dX7_makeDerived_6 ?_
  refine lv_iload_n hx hb dX7_makeDerived_9 rfl (lv_at hl 0 rfl) ?_
  refine lv_aload_n hx hb dX7_makeDerived_10 rfl (lv_at hl 1 rfl) ?_
  refine z_getr hx hb hts hinRX7 hown B 2 1 3 rfl rfl rfl (by decide) (by decide +kernel) rfl dX7_makeDerived_11 ?_
  refine lv_iload_n hx hb dX7_makeDerived_14 rfl (lv_at hl 3 rfl) ?_
  obtain ⟨hg, hf⟩ := zg_some hf
  refine z_iald hx hb B 3 rfl (zin_ok hg) dX7_makeDerived_15 ?_
  obtain ⟨hg, hf⟩ := zg_some hf
  refine z_iast hx hb B 3 rfl (zin_ok hg) dX7_makeDerived_16 (fun H locs B => ?_)
  refine lv_aload_n hx hb dX7_makeDerived_17 rfl (lv_at hl 1 rfl) ?_
  refine z_getr hx hb hts hinRX7 hown B 2 2 4 rfl rfl rfl (by decide) (by decide +kernel) rfl dX7_makeDerived_18 ?_
  refine lv_iload_n hx hb dX7_makeDerived_21 rfl (lv_at hl 0 rfl) ?_
  refine lv_aload_n hx hb dX7_makeDerived_22 rfl (lv_at hl 1 rfl) ?_
  refine z_getr hx hb hts hinRX7 hown B 2 2 4 rfl rfl rfl (by decide) (by decide +kernel) rfl dX7_makeDerived_23 ?_
  refine lv_iload_n hx hb dX7_makeDerived_26 rfl (lv_at hl 3 rfl) ?_
  obtain ⟨hg, hf⟩ := zg_some hf
  refine z_iald hx hb B 4 rfl (zin_ok hg) dX7_makeDerived_27 ?_
  refine lv_iconst (v := (1 : Int32)) hx hb dX7_makeDerived_28 (by decide) ?_
  refine lv_iadd hx hb dX7_makeDerived_29 ?_
  obtain ⟨hg, hf⟩ := zg_some hf
  refine z_iast hx hb B 4 rfl (zin_ok hg) dX7_makeDerived_30 (fun H locs B => ?_)
  refine lv_aload_n hx hb dX7_makeDerived_31 rfl (lv_at hl 1 rfl) ?_
  refine z_getr hx hb hts hinRX7 hown B 2 3 5 rfl rfl rfl (by decide) (by decide +kernel) rfl dX7_makeDerived_32 ?_
  refine lv_iload_n hx hb dX7_makeDerived_35 rfl (lv_at hl 3 rfl) ?_
  refine lv_bipush (v := (7 : Int32)) hx hb dX7_makeDerived_36 (by decide) ?_
  refine lv_imul hx hb dX7_makeDerived_38 ?_
  refine lv_aload_n hx hb dX7_makeDerived_39 rfl (lv_at hl 1 rfl) ?_
  refine z_getr hx hb hts hinRX7 hown B 2 3 5 rfl rfl rfl (by decide) (by decide +kernel) rfl dX7_makeDerived_40 ?_
  refine lv_iload_n hx hb dX7_makeDerived_43 rfl (lv_at hl 0 rfl) ?_
  refine lv_bipush (v := (7 : Int32)) hx hb dX7_makeDerived_44 (by decide) ?_
  refine lv_imul hx hb dX7_makeDerived_46 ?_
  refine lv_aload_n hx hb dX7_makeDerived_47 rfl (lv_at hl 1 rfl) ?_
  refine z_getr hx hb hts hinRX7 hown B 2 2 4 rfl rfl rfl (by decide) (by decide +kernel) rfl dX7_makeDerived_48 ?_
  refine lv_iload_n hx hb dX7_makeDerived_51 rfl (lv_at hl 3 rfl) ?_
  obtain ⟨hg, hf⟩ := zg_some hf
  refine z_iald hx hb B 4 rfl (zin_ok hg) dX7_makeDerived_52 ?_
  obtain ⟨hg, hf⟩ := zg_some hf
  obtain ⟨g1, g2, g3, g4, g5⟩ := zcp_ok hg
  refine z_copyi hx hb (hml.trans hl.1.symm) hts hown (index := 61) (by decide +kernel) (by decide +kernel) (by decide +kernel) (by decide +kernel) B 5 5 rfl rfl g1 g2 g3 g4 g5 (Nat.le_of_ble_eq_true rfl) (Nat.le_of_ble_eq_true rfl) dX7_makeDerived_53 (fun H locs B => ?_)
  refine lv_aload_n hx hb dX7_makeDerived_56 rfl (lv_at hl 1 rfl) ?_
  refine z_getr hx hb hts hinRX7 hown B 2 3 5 rfl rfl rfl (by decide) (by decide +kernel) rfl dX7_makeDerived_57 ?_
  refine lv_iload_n hx hb dX7_makeDerived_60 rfl (lv_at hl 0 rfl) ?_
  refine lv_bipush (v := (7 : Int32)) hx hb dX7_makeDerived_61 (by decide) ?_
  refine lv_imul hx hb dX7_makeDerived_63 ?_
  refine lv_aload_n hx hb dX7_makeDerived_64 rfl (lv_at hl 1 rfl) ?_
  refine z_getr hx hb hts hinRX7 hown B 2 2 4 rfl rfl rfl (by decide) (by decide +kernel) rfl dX7_makeDerived_65 ?_
  refine lv_iload_n hx hb dX7_makeDerived_68 rfl (lv_at hl 3 rfl) ?_
  obtain ⟨hg, hf⟩ := zg_some hf
  refine z_iald hx hb B 4 rfl (zin_ok hg) dX7_makeDerived_69 ?_
  refine lv_iadd hx hb dX7_makeDerived_70 ?_
  refine lv_iload_n hx hb dX7_makeDerived_71 rfl (lv_at hl 0 rfl) ?_
  obtain ⟨hg, hf⟩ := zg_some hf
  refine z_iast hx hb B 5 rfl (zin_ok hg) dX7_makeDerived_72 (fun H locs B => ?_)
  refine lv_aload_n hx hb dX7_makeDerived_73 rfl (lv_at hl 1 rfl) ?_
  refine lv_iload_n hx hb dX7_makeDerived_74 rfl (lv_at hl 0 rfl) ?_
  refine lv_iload_n hx hb dX7_makeDerived_75 rfl (lv_at hl 2 rfl) ?_
  obtain ⟨r2, σ3, hu1, hf⟩ := zb_some hf
  refine z_v B (va_runV (As := [.int (σ 2 0), .int a1]) (rest := []) ⟨hx, hb, hml, hown, hts⟩ (c_X7_startToken l hu1 _) (cwV 2 hts gX7_makeDerived_X7_startToken rfl rfl rfl (by decide +kernel) ⟨Nat.le_of_ble_eq_true rfl, Nat.le_of_ble_eq_true rfl⟩) (z_preV B rfl rfl) rfl rfl hl.1 rfl (lv_room (Nat.le_of_ble_eq_true rfl)) dX7_makeDerived_76 ⟨Nat.le_of_ble_eq_true rfl, Nat.le_of_ble_eq_true rfl⟩) (fun H locs B => ?_)
  refine lv_iload_n hx hb dX7_makeDerived_79 rfl (lv_at hl 0 rfl) ?_
  refine W.widen (k := 0) (n := 0) (Nat.le_of_ble_eq_true rfl) (Nat.le_of_ble_eq_true rfl) ?_
  exact z_iret hx hb hr rfl hlocks B hf dX7_makeDerived_80
theorem dX7_addCaveat_0 : decode cX7_addCaveat 0 = .ok (.aload_n 0, 1) := by decide +kernel
theorem dX7_addCaveat_1 : decode cX7_addCaveat 1 = .ok (.getfield 30, 3) := by decide +kernel
theorem dX7_addCaveat_4 : decode cX7_addCaveat 4 = .ok (.iload_n 1, 1) := by decide +kernel
theorem dX7_addCaveat_5 : decode cX7_addCaveat 5 = .ok (.iaload, 1) := by decide +kernel
theorem dX7_addCaveat_6 : decode cX7_addCaveat 6 = .ok (.iconst 4, 1) := by decide +kernel
theorem dX7_addCaveat_7 : decode cX7_addCaveat 7 = .ok (.if_icmp .ge 50, 3) := by decide +kernel
theorem dX7_addCaveat_10 : decode cX7_addCaveat 10 = .ok (.iload_n 1, 1) := by decide +kernel
theorem dX7_addCaveat_11 : decode cX7_addCaveat 11 = .ok (.iconst 4, 1) := by decide +kernel
theorem dX7_addCaveat_12 : decode cX7_addCaveat 12 = .ok (.imul, 1) := by decide +kernel
theorem dX7_addCaveat_13 : decode cX7_addCaveat 13 = .ok (.aload_n 0, 1) := by decide +kernel
theorem dX7_addCaveat_14 : decode cX7_addCaveat 14 = .ok (.getfield 30, 3) := by decide +kernel
theorem dX7_addCaveat_17 : decode cX7_addCaveat 17 = .ok (.iload_n 1, 1) := by decide +kernel
theorem dX7_addCaveat_18 : decode cX7_addCaveat 18 = .ok (.iaload, 1) := by decide +kernel
theorem dX7_addCaveat_19 : decode cX7_addCaveat 19 = .ok (.iadd, 1) := by decide +kernel
theorem dX7_addCaveat_20 : decode cX7_addCaveat 20 = .ok (.istore 5, 2) := by decide +kernel
theorem dX7_addCaveat_22 : decode cX7_addCaveat 22 = .ok (.aload_n 0, 1) := by decide +kernel
theorem dX7_addCaveat_23 : decode cX7_addCaveat 23 = .ok (.getfield 33, 3) := by decide +kernel
theorem dX7_addCaveat_26 : decode cX7_addCaveat 26 = .ok (.iload 5, 2) := by decide +kernel
theorem dX7_addCaveat_28 : decode cX7_addCaveat 28 = .ok (.iload_n 2, 1) := by decide +kernel
theorem dX7_addCaveat_29 : decode cX7_addCaveat 29 = .ok (.iastore, 1) := by decide +kernel
theorem dX7_addCaveat_30 : decode cX7_addCaveat 30 = .ok (.aload_n 0, 1) := by decide +kernel
theorem dX7_addCaveat_31 : decode cX7_addCaveat 31 = .ok (.getfield 36, 3) := by decide +kernel
theorem dX7_addCaveat_34 : decode cX7_addCaveat 34 = .ok (.iload 5, 2) := by decide +kernel
theorem dX7_addCaveat_36 : decode cX7_addCaveat 36 = .ok (.iload_n 3, 1) := by decide +kernel
theorem dX7_addCaveat_37 : decode cX7_addCaveat 37 = .ok (.iastore, 1) := by decide +kernel
theorem dX7_addCaveat_38 : decode cX7_addCaveat 38 = .ok (.aload_n 0, 1) := by decide +kernel
theorem dX7_addCaveat_39 : decode cX7_addCaveat 39 = .ok (.getfield 39, 3) := by decide +kernel
theorem dX7_addCaveat_42 : decode cX7_addCaveat 42 = .ok (.iload 5, 2) := by decide +kernel
theorem dX7_addCaveat_44 : decode cX7_addCaveat 44 = .ok (.iload 4, 2) := by decide +kernel
theorem dX7_addCaveat_46 : decode cX7_addCaveat 46 = .ok (.iastore, 1) := by decide +kernel
theorem dX7_addCaveat_47 : decode cX7_addCaveat 47 = .ok (.aload_n 0, 1) := by decide +kernel
theorem dX7_addCaveat_48 : decode cX7_addCaveat 48 = .ok (.getfield 30, 3) := by decide +kernel
theorem dX7_addCaveat_51 : decode cX7_addCaveat 51 = .ok (.iload_n 1, 1) := by decide +kernel
theorem dX7_addCaveat_52 : decode cX7_addCaveat 52 = .ok (.dup2, 1) := by decide +kernel
theorem dX7_addCaveat_53 : decode cX7_addCaveat 53 = .ok (.iaload, 1) := by decide +kernel
theorem dX7_addCaveat_54 : decode cX7_addCaveat 54 = .ok (.iconst 1, 1) := by decide +kernel
theorem dX7_addCaveat_55 : decode cX7_addCaveat 55 = .ok (.iadd, 1) := by decide +kernel
theorem dX7_addCaveat_56 : decode cX7_addCaveat 56 = .ok (.iastore, 1) := by decide +kernel
theorem dX7_addCaveat_57 : decode cX7_addCaveat 57 = .ok (.return_, 1) := by decide +kernel
def rm_X7_addCaveat : Room := { frames := 1, cells := 0, slots := 0, locals := 16 }
set_option maxHeartbeats 4000000 in
set_option maxRecDepth 100000 in
theorem c_X7_addCaveat (l : Launch) {nb : Nat} {G : zG} {ad : Nat → Nat} {σ σ' : zs} {a1 a2 a3 a4 : Int32} {r : Int32} (hf : f_X7_addCaveat σ a1 a2 a3 a4 = some (r, σ')) : zMv l yX7_addCaveat wsX7_addCaveat rm_X7_addCaveat G (zS nb) ad σ [.ref (ad 2), .int a1, .int a2, .int a3, .int a4] σ' := by
  intro sz
  refine Met.ofW (cc := cX7_addCaveat) (maxL := 6) (ret := none) (by decide) rfl ?_
  intro p e s m args below meth c s₁ B hml hv
  obtain ⟨rfl, hsz, hv⟩ := hv
  have hx := B.exec
  have hb := B.bytes
  have hr := B.returns
  have hts := atoms_spec (ws := wsX7_addCaveat) B.pre
  have hown : s.vm.findClass RX7 = some m.cls := findClass_of_methodNamed B.named
  have hlocks := B.notSynchronized
  subst hsz
  have B := zB_start hv
  have hinRX7 : ∀ w ∈ wsX70, w ∈ wsX7_addCaveat := by decide +kernel
  have hl := lv_entry ([.ref (ad 2), .int a1, .int a2, .int a3, .int a4]) (n := 6) (Nat.le_of_ble_eq_true rfl)
  rw [lg_entry_eq]
  generalize (lg_sl ([.ref (ad 2), .int a1, .int a2, .int a3, .int a4]) ++ List.replicate (6 - (lg_sl ([.ref (ad 2), .int a1, .int a2, .int a3, .int a4])).length) Slot.unset).toArray = ls at hl ⊢
  have hl : lv_has ls 6 [(0, .ref (ad 2)), (1, .int a1), (2, .int a2), (3, .int a3), (4, .int a4)] := hl
  generalize hAe : zA ad (zS nb).length s.heap.size = A at B ⊢
  unfold f_X7_addCaveat at hf
  refine lv_aload_n hx hb dX7_addCaveat_0 rfl (lv_at hl 0 rfl) ?_
  refine z_getr hx hb hts hinRX7 hown B 2 7 9 rfl rfl rfl (by decide) (by decide +kernel) rfl dX7_addCaveat_1 ?_
  refine lv_iload_n hx hb dX7_addCaveat_4 rfl (lv_at hl 1 rfl) ?_
  obtain ⟨hg, hf⟩ := zg_some hf
  refine z_iald hx hb B 9 rfl (zin_ok hg) dX7_addCaveat_5 ?_
  refine lv_iconst (v := (4 : Int32)) hx hb dX7_addCaveat_6 (by decide) ?_
  refine lv_icmp_ge (tgt := 57) hx hb dX7_addCaveat_7 (by decide) (fun hc => ?_) (fun hc => ?_)
  · have hf := zif_t hc hf
    refine W.widen (k := 0) (n := 0) (Nat.le_of_ble_eq_true rfl) (Nat.le_of_ble_eq_true rfl) ?_
    exact z_vret hx hb hr hlocks B hf dX7_addCaveat_57
  · have hf := zif_f hc hf
    refine lv_iload_n hx hb dX7_addCaveat_10 rfl (lv_at hl 1 rfl) ?_
    refine lv_iconst (v := (4 : Int32)) hx hb dX7_addCaveat_11 (by decide) ?_
    refine lv_imul hx hb dX7_addCaveat_12 ?_
    refine lv_aload_n hx hb dX7_addCaveat_13 rfl (lv_at hl 0 rfl) ?_
    refine z_getr hx hb hts hinRX7 hown B 2 7 9 rfl rfl rfl (by decide) (by decide +kernel) rfl dX7_addCaveat_14 ?_
    refine lv_iload_n hx hb dX7_addCaveat_17 rfl (lv_at hl 1 rfl) ?_
    obtain ⟨hg, hf⟩ := zg_some hf
    refine z_iald hx hb B 9 rfl (zin_ok hg) dX7_addCaveat_18 ?_
    refine lv_iadd hx hb dX7_addCaveat_19 ?_
    refine lv_istore (lv' := [(5, .int ((a1 * (4 : Int32)) + (σ 9 a1.toNatClampNeg))), (0, .ref (ad 2)), (1, .int a1), (2, .int a2), (3, .int a3), (4, .int a4)]) hx hb dX7_addCaveat_20 hl (by decide) rfl (fun ls hl => ?_)
    refine lv_aload_n hx hb dX7_addCaveat_22 rfl (lv_at hl 1 rfl) ?_
    refine z_getr hx hb hts hinRX7 hown B 2 8 10 rfl rfl rfl (by decide) (by decide +kernel) rfl dX7_addCaveat_23 ?_
    refine lv_iload hx hb dX7_addCaveat_26 (lv_at hl 0 rfl) ?_
    refine lv_iload_n hx hb dX7_addCaveat_28 rfl (lv_at hl 3 rfl) ?_
    obtain ⟨hg, hf⟩ := zg_some hf
    refine z_iast hx hb B 10 rfl (zin_ok hg) dX7_addCaveat_29 (fun H locs B => ?_)
    refine lv_aload_n hx hb dX7_addCaveat_30 rfl (lv_at hl 1 rfl) ?_
    refine z_getr hx hb hts hinRX7 hown B 2 9 11 rfl rfl rfl (by decide) (by decide +kernel) rfl dX7_addCaveat_31 ?_
    refine lv_iload hx hb dX7_addCaveat_34 (lv_at hl 0 rfl) ?_
    refine lv_iload_n hx hb dX7_addCaveat_36 rfl (lv_at hl 4 rfl) ?_
    obtain ⟨hg, hf⟩ := zg_some hf
    refine z_iast hx hb B 11 rfl (zin_ok hg) dX7_addCaveat_37 (fun H locs B => ?_)
    refine lv_aload_n hx hb dX7_addCaveat_38 rfl (lv_at hl 1 rfl) ?_
    refine z_getr hx hb hts hinRX7 hown B 2 10 12 rfl rfl rfl (by decide) (by decide +kernel) rfl dX7_addCaveat_39 ?_
    refine lv_iload hx hb dX7_addCaveat_42 (lv_at hl 0 rfl) ?_
    refine lv_iload hx hb dX7_addCaveat_44 (lv_at hl 5 rfl) ?_
    obtain ⟨hg, hf⟩ := zg_some hf
    refine z_iast hx hb B 12 rfl (zin_ok hg) dX7_addCaveat_46 (fun H locs B => ?_)
    refine lv_aload_n hx hb dX7_addCaveat_47 rfl (lv_at hl 1 rfl) ?_
    refine z_getr hx hb hts hinRX7 hown B 2 7 9 rfl rfl rfl (by decide) (by decide +kernel) rfl dX7_addCaveat_48 ?_
    refine lv_iload_n hx hb dX7_addCaveat_51 rfl (lv_at hl 2 rfl) ?_
    refine lv_dup2_11 hx hb dX7_addCaveat_52 rfl rfl ?_
    obtain ⟨hg, hf⟩ := zg_some hf
    refine z_iald hx hb B 9 rfl (zin_ok hg) dX7_addCaveat_53 ?_
    refine lv_iconst (v := (1 : Int32)) hx hb dX7_addCaveat_54 (by decide) ?_
    refine lv_iadd hx hb dX7_addCaveat_55 ?_
    obtain ⟨hg, hf⟩ := zg_some hf
    refine z_iast hx hb B 9 rfl (zin_ok hg) dX7_addCaveat_56 (fun H locs B => ?_)
    refine W.widen (k := 0) (n := 0) (Nat.le_of_ble_eq_true rfl) (Nat.le_of_ble_eq_true rfl) ?_
    exact z_vret hx hb hr hlocks B hf dX7_addCaveat_57
theorem dX7_parentOf_0 : decode cX7_parentOf 0 = .ok (.aload_n 0, 1) := by decide +kernel
theorem dX7_parentOf_1 : decode cX7_parentOf 1 = .ok (.getfield 15, 3) := by decide +kernel
theorem dX7_parentOf_4 : decode cX7_parentOf 4 = .ok (.iload_n 1, 1) := by decide +kernel
theorem dX7_parentOf_5 : decode cX7_parentOf 5 = .ok (.iaload, 1) := by decide +kernel
theorem dX7_parentOf_6 : decode cX7_parentOf 6 = .ok (.iconst 1, 1) := by decide +kernel
theorem dX7_parentOf_7 : decode cX7_parentOf 7 = .ok (.if_icmp .le 24, 3) := by decide +kernel
theorem dX7_parentOf_10 : decode cX7_parentOf 10 = .ok (.aload_n 0, 1) := by decide +kernel
theorem dX7_parentOf_11 : decode cX7_parentOf 11 = .ok (.getfield 18, 3) := by decide +kernel
theorem dX7_parentOf_14 : decode cX7_parentOf 14 = .ok (.iload_n 1, 1) := by decide +kernel
theorem dX7_parentOf_15 : decode cX7_parentOf 15 = .ok (.bipush 7, 2) := by decide +kernel
theorem dX7_parentOf_17 : decode cX7_parentOf 17 = .ok (.imul, 1) := by decide +kernel
theorem dX7_parentOf_18 : decode cX7_parentOf 18 = .ok (.aload_n 0, 1) := by decide +kernel
theorem dX7_parentOf_19 : decode cX7_parentOf 19 = .ok (.getfield 15, 3) := by decide +kernel
theorem dX7_parentOf_22 : decode cX7_parentOf 22 = .ok (.iload_n 1, 1) := by decide +kernel
theorem dX7_parentOf_23 : decode cX7_parentOf 23 = .ok (.iaload, 1) := by decide +kernel
theorem dX7_parentOf_24 : decode cX7_parentOf 24 = .ok (.iadd, 1) := by decide +kernel
theorem dX7_parentOf_25 : decode cX7_parentOf 25 = .ok (.iconst 2, 1) := by decide +kernel
theorem dX7_parentOf_26 : decode cX7_parentOf 26 = .ok (.isub, 1) := by decide +kernel
theorem dX7_parentOf_27 : decode cX7_parentOf 27 = .ok (.iaload, 1) := by decide +kernel
theorem dX7_parentOf_28 : decode cX7_parentOf 28 = .ok (.goto 4, 3) := by decide +kernel
theorem dX7_parentOf_31 : decode cX7_parentOf 31 = .ok (.iconst (-1), 1) := by decide +kernel
theorem dX7_parentOf_32 : decode cX7_parentOf 32 = .ok (.ireturn, 1) := by decide +kernel
def rm_X7_parentOf : Room := { frames := 1, cells := 0, slots := 0, locals := 16 }
set_option maxHeartbeats 4000000 in
set_option maxRecDepth 100000 in
theorem c_X7_parentOf (l : Launch) {nb : Nat} {G : zG} {ad : Nat → Nat} {σ σ' : zs} {a1 : Int32} {r : Int32} (hf : f_X7_parentOf σ a1 = some (r, σ')) : zMi l yX7_parentOf wsX7_parentOf rm_X7_parentOf G (zS nb) ad σ [.ref (ad 2), .int a1] r σ' := by
  intro sz
  refine Met.ofW (cc := cX7_parentOf) (maxL := 2) (ret := (some .int)) (by decide) rfl ?_
  intro p e s m args below meth c s₁ B hml hv
  obtain ⟨rfl, hsz, hv⟩ := hv
  have hx := B.exec
  have hb := B.bytes
  have hr := B.returns
  have hts := atoms_spec (ws := wsX7_parentOf) B.pre
  have hown : s.vm.findClass RX7 = some m.cls := findClass_of_methodNamed B.named
  have hlocks := B.notSynchronized
  subst hsz
  have B := zB_start hv
  have hinRX7 : ∀ w ∈ wsX70, w ∈ wsX7_parentOf := by decide +kernel
  have hl := lv_entry ([.ref (ad 2), .int a1]) (n := 2) (Nat.le_of_ble_eq_true rfl)
  rw [lg_entry_eq]
  generalize (lg_sl ([.ref (ad 2), .int a1]) ++ List.replicate (2 - (lg_sl ([.ref (ad 2), .int a1])).length) Slot.unset).toArray = ls at hl ⊢
  have hl : lv_has ls 2 [(0, .ref (ad 2)), (1, .int a1)] := hl
  generalize hAe : zA ad (zS nb).length s.heap.size = A at B ⊢
  unfold f_X7_parentOf at hf
  refine lv_aload_n hx hb dX7_parentOf_0 rfl (lv_at hl 0 rfl) ?_
  refine z_getr hx hb hts hinRX7 hown B 2 2 4 rfl rfl rfl (by decide) (by decide +kernel) rfl dX7_parentOf_1 ?_
  refine lv_iload_n hx hb dX7_parentOf_4 rfl (lv_at hl 1 rfl) ?_
  obtain ⟨hg, hf⟩ := zg_some hf
  refine z_iald hx hb B 4 rfl (zin_ok hg) dX7_parentOf_5 ?_
  refine lv_iconst (v := (1 : Int32)) hx hb dX7_parentOf_6 (by decide) ?_
  refine lv_icmp_le (tgt := 31) hx hb dX7_parentOf_7 (by decide) (fun hc => ?_) (fun hc => ?_)
  · have hf := zif_t hc hf
    refine lv_iconst (v := (-1 : Int32)) hx hb dX7_parentOf_31 (by decide) ?_
    refine W.widen (k := 0) (n := 0) (Nat.le_of_ble_eq_true rfl) (Nat.le_of_ble_eq_true rfl) ?_
    exact z_iret hx hb hr rfl hlocks B hf dX7_parentOf_32
  · have hf := zif_f hc hf
    refine lv_aload_n hx hb dX7_parentOf_10 rfl (lv_at hl 0 rfl) ?_
    refine z_getr hx hb hts hinRX7 hown B 2 3 5 rfl rfl rfl (by decide) (by decide +kernel) rfl dX7_parentOf_11 ?_
    refine lv_iload_n hx hb dX7_parentOf_14 rfl (lv_at hl 1 rfl) ?_
    refine lv_bipush (v := (7 : Int32)) hx hb dX7_parentOf_15 (by decide) ?_
    refine lv_imul hx hb dX7_parentOf_17 ?_
    refine lv_aload_n hx hb dX7_parentOf_18 rfl (lv_at hl 0 rfl) ?_
    refine z_getr hx hb hts hinRX7 hown B 2 2 4 rfl rfl rfl (by decide) (by decide +kernel) rfl dX7_parentOf_19 ?_
    refine lv_iload_n hx hb dX7_parentOf_22 rfl (lv_at hl 1 rfl) ?_
    obtain ⟨hg, hf⟩ := zg_some hf
    refine z_iald hx hb B 4 rfl (zin_ok hg) dX7_parentOf_23 ?_
    refine lv_iadd hx hb dX7_parentOf_24 ?_
    refine lv_iconst (v := (2 : Int32)) hx hb dX7_parentOf_25 (by decide) ?_
    refine lv_isub hx hb dX7_parentOf_26 ?_
    obtain ⟨hg, hf⟩ := zg_some hf
    refine z_iald hx hb B 5 rfl (zin_ok hg) dX7_parentOf_27 ?_
    refine lv_goto (tgt := 32) hx hb dX7_parentOf_28 (by decide) ?_
    refine W.widen (k := 0) (n := 0) (Nat.le_of_ble_eq_true rfl) (Nat.le_of_ble_eq_true rfl) ?_
    exact z_iret hx hb hr rfl hlocks B hf dX7_parentOf_32
theorem dX7_isBelow_0 : decode cX7_isBelow 0 = .ok (.aload_n 0, 1) := by decide +kernel
theorem dX7_isBelow_1 : decode cX7_isBelow 1 = .ok (.getfield 15, 3) := by decide +kernel
theorem dX7_isBelow_4 : decode cX7_isBelow 4 = .ok (.iload_n 1, 1) := by decide +kernel
theorem dX7_isBelow_5 : decode cX7_isBelow 5 = .ok (.iaload, 1) := by decide +kernel
theorem dX7_isBelow_6 : decode cX7_isBelow 6 = .ok (.aload_n 0, 1) := by decide +kernel
theorem dX7_isBelow_7 : decode cX7_isBelow 7 = .ok (.getfield 15, 3) := by decide +kernel
theorem dX7_isBelow_10 : decode cX7_isBelow 10 = .ok (.iload_n 2, 1) := by decide +kernel
theorem dX7_isBelow_11 : decode cX7_isBelow 11 = .ok (.iaload, 1) := by decide +kernel
theorem dX7_isBelow_12 : decode cX7_isBelow 12 = .ok (.if_icmp .lt 29, 3) := by decide +kernel
theorem dX7_isBelow_15 : decode cX7_isBelow 15 = .ok (.aload_n 0, 1) := by decide +kernel
theorem dX7_isBelow_16 : decode cX7_isBelow 16 = .ok (.getfield 18, 3) := by decide +kernel
theorem dX7_isBelow_19 : decode cX7_isBelow 19 = .ok (.iload_n 1, 1) := by decide +kernel
theorem dX7_isBelow_20 : decode cX7_isBelow 20 = .ok (.bipush 7, 2) := by decide +kernel
theorem dX7_isBelow_22 : decode cX7_isBelow 22 = .ok (.imul, 1) := by decide +kernel
theorem dX7_isBelow_23 : decode cX7_isBelow 23 = .ok (.aload_n 0, 1) := by decide +kernel
theorem dX7_isBelow_24 : decode cX7_isBelow 24 = .ok (.getfield 15, 3) := by decide +kernel
theorem dX7_isBelow_27 : decode cX7_isBelow 27 = .ok (.iload_n 2, 1) := by decide +kernel
theorem dX7_isBelow_28 : decode cX7_isBelow 28 = .ok (.iaload, 1) := by decide +kernel
theorem dX7_isBelow_29 : decode cX7_isBelow 29 = .ok (.iadd, 1) := by decide +kernel
theorem dX7_isBelow_30 : decode cX7_isBelow 30 = .ok (.iconst 1, 1) := by decide +kernel
theorem dX7_isBelow_31 : decode cX7_isBelow 31 = .ok (.isub, 1) := by decide +kernel
theorem dX7_isBelow_32 : decode cX7_isBelow 32 = .ok (.iaload, 1) := by decide +kernel
theorem dX7_isBelow_33 : decode cX7_isBelow 33 = .ok (.iload_n 2, 1) := by decide +kernel
theorem dX7_isBelow_34 : decode cX7_isBelow 34 = .ok (.if_icmp .ne 7, 3) := by decide +kernel
theorem dX7_isBelow_37 : decode cX7_isBelow 37 = .ok (.iconst 1, 1) := by decide +kernel
theorem dX7_isBelow_38 : decode cX7_isBelow 38 = .ok (.goto 4, 3) := by decide +kernel
theorem dX7_isBelow_41 : decode cX7_isBelow 41 = .ok (.iconst 0, 1) := by decide +kernel
theorem dX7_isBelow_42 : decode cX7_isBelow 42 = .ok (.ireturn, 1) := by decide +kernel
def rm_X7_isBelow : Room := { frames := 1, cells := 0, slots := 0, locals := 16 }
set_option maxHeartbeats 4000000 in
set_option maxRecDepth 100000 in
theorem c_X7_isBelow (l : Launch) {nb : Nat} {G : zG} {ad : Nat → Nat} {σ σ' : zs} {a1 a2 : Int32} {r : Int32} (hf : f_X7_isBelow σ a1 a2 = some (r, σ')) : zMi l yX7_isBelow wsX7_isBelow rm_X7_isBelow G (zS nb) ad σ [.ref (ad 2), .int a1, .int a2] r σ' := by
  intro sz
  refine Met.ofW (cc := cX7_isBelow) (maxL := 3) (ret := (some .boolean)) (by decide) rfl ?_
  intro p e s m args below meth c s₁ B hml hv
  obtain ⟨rfl, hsz, hv⟩ := hv
  have hx := B.exec
  have hb := B.bytes
  have hr := B.returns
  have hts := atoms_spec (ws := wsX7_isBelow) B.pre
  have hown : s.vm.findClass RX7 = some m.cls := findClass_of_methodNamed B.named
  have hlocks := B.notSynchronized
  subst hsz
  have B := zB_start hv
  have hinRX7 : ∀ w ∈ wsX70, w ∈ wsX7_isBelow := by decide +kernel
  have hl := lv_entry ([.ref (ad 2), .int a1, .int a2]) (n := 3) (Nat.le_of_ble_eq_true rfl)
  rw [lg_entry_eq]
  generalize (lg_sl ([.ref (ad 2), .int a1, .int a2]) ++ List.replicate (3 - (lg_sl ([.ref (ad 2), .int a1, .int a2])).length) Slot.unset).toArray = ls at hl ⊢
  have hl : lv_has ls 3 [(0, .ref (ad 2)), (1, .int a1), (2, .int a2)] := hl
  generalize hAe : zA ad (zS nb).length s.heap.size = A at B ⊢
  unfold f_X7_isBelow at hf
  refine lv_aload_n hx hb dX7_isBelow_0 rfl (lv_at hl 0 rfl) ?_
  refine z_getr hx hb hts hinRX7 hown B 2 2 4 rfl rfl rfl (by decide) (by decide +kernel) rfl dX7_isBelow_1 ?_
  refine lv_iload_n hx hb dX7_isBelow_4 rfl (lv_at hl 1 rfl) ?_
  obtain ⟨hg, hf⟩ := zg_some hf
  refine z_iald hx hb B 4 rfl (zin_ok hg) dX7_isBelow_5 ?_
  refine lv_aload_n hx hb dX7_isBelow_6 rfl (lv_at hl 0 rfl) ?_
  refine z_getr hx hb hts hinRX7 hown B 2 2 4 rfl rfl rfl (by decide) (by decide +kernel) rfl dX7_isBelow_7 ?_
  refine lv_iload_n hx hb dX7_isBelow_10 rfl (lv_at hl 2 rfl) ?_
  obtain ⟨hg, hf⟩ := zg_some hf
  refine z_iald hx hb B 4 rfl (zin_ok hg) dX7_isBelow_11 ?_
  refine lv_icmp_lt (tgt := 41) hx hb dX7_isBelow_12 (by decide) (fun hc => ?_) (fun hc => ?_)
  · have hf := zif_t hc hf
    refine lv_iconst (v := (0 : Int32)) hx hb dX7_isBelow_41 (by decide) ?_
    refine W.widen (k := 0) (n := 0) (Nat.le_of_ble_eq_true rfl) (Nat.le_of_ble_eq_true rfl) ?_
    exact z_iret hx hb hr (by decide) hlocks B hf dX7_isBelow_42
  · have hf := zif_f hc hf
    refine lv_aload_n hx hb dX7_isBelow_15 rfl (lv_at hl 0 rfl) ?_
    refine z_getr hx hb hts hinRX7 hown B 2 3 5 rfl rfl rfl (by decide) (by decide +kernel) rfl dX7_isBelow_16 ?_
    refine lv_iload_n hx hb dX7_isBelow_19 rfl (lv_at hl 1 rfl) ?_
    refine lv_bipush (v := (7 : Int32)) hx hb dX7_isBelow_20 (by decide) ?_
    refine lv_imul hx hb dX7_isBelow_22 ?_
    refine lv_aload_n hx hb dX7_isBelow_23 rfl (lv_at hl 0 rfl) ?_
    refine z_getr hx hb hts hinRX7 hown B 2 2 4 rfl rfl rfl (by decide) (by decide +kernel) rfl dX7_isBelow_24 ?_
    refine lv_iload_n hx hb dX7_isBelow_27 rfl (lv_at hl 2 rfl) ?_
    obtain ⟨hg, hf⟩ := zg_some hf
    refine z_iald hx hb B 4 rfl (zin_ok hg) dX7_isBelow_28 ?_
    refine lv_iadd hx hb dX7_isBelow_29 ?_
    refine lv_iconst (v := (1 : Int32)) hx hb dX7_isBelow_30 (by decide) ?_
    refine lv_isub hx hb dX7_isBelow_31 ?_
    obtain ⟨hg, hf⟩ := zg_some hf
    refine z_iald hx hb B 5 rfl (zin_ok hg) dX7_isBelow_32 ?_
    refine lv_iload_n hx hb dX7_isBelow_33 rfl (lv_at hl 2 rfl) ?_
    refine lv_icmp_ne (tgt := 41) hx hb dX7_isBelow_34 (by decide) (fun hc => ?_) (fun hc => ?_)
    · have hf := zif_f hc hf
      refine lv_iconst (v := (0 : Int32)) hx hb dX7_isBelow_41 (by decide) ?_
      refine W.widen (k := 0) (n := 0) (Nat.le_of_ble_eq_true rfl) (Nat.le_of_ble_eq_true rfl) ?_
      exact z_iret hx hb hr (by decide) hlocks B hf dX7_isBelow_42
    · have hf := zif_t hc hf
      refine lv_iconst (v := (1 : Int32)) hx hb dX7_isBelow_37 (by decide) ?_
      refine lv_goto (tgt := 42) hx hb dX7_isBelow_38 (by decide) ?_
      refine W.widen (k := 0) (n := 0) (Nat.le_of_ble_eq_true rfl) (Nat.le_of_ble_eq_true rfl) ?_
      exact z_iret hx hb hr (by decide) hlocks B hf dX7_isBelow_42
theorem dX7_setBelow_0 : decode cX7_setBelow 0 = .ok (.iconst 0, 1) := by decide +kernel
theorem dX7_setBelow_1 : decode cX7_setBelow 1 = .ok (.istore_n 2, 1) := by decide +kernel
theorem dX7_setBelow_2 : decode cX7_setBelow 2 = .ok (.iconst 0, 1) := by decide +kernel
theorem dX7_setBelow_3 : decode cX7_setBelow 3 = .ok (.istore_n 3, 1) := by decide +kernel
theorem dX7_setBelow_4 : decode cX7_setBelow 4 = .ok (.iload_n 3, 1) := by decide +kernel
theorem dX7_setBelow_5 : decode cX7_setBelow 5 = .ok (.aload_n 0, 1) := by decide +kernel
theorem dX7_setBelow_6 : decode cX7_setBelow 6 = .ok (.getfield 49, 3) := by decide +kernel
theorem dX7_setBelow_9 : decode cX7_setBelow 9 = .ok (.if_icmp .ge 24, 3) := by decide +kernel
theorem dX7_setBelow_12 : decode cX7_setBelow 12 = .ok (.aload_n 0, 1) := by decide +kernel
theorem dX7_setBelow_13 : decode cX7_setBelow 13 = .ok (.iload_n 3, 1) := by decide +kernel
theorem dX7_setBelow_14 : decode cX7_setBelow 14 = .ok (.iload_n 1, 1) := by decide +kernel
theorem dX7_setBelow_15 : decode cX7_setBelow 15 = .ok (.invokevirtual 67, 3) := by decide +kernel
theorem dX7_setBelow_18 : decode cX7_setBelow 18 = .ok (.ifCond .eq 9, 3) := by decide +kernel
theorem dX7_setBelow_21 : decode cX7_setBelow 21 = .ok (.iload_n 2, 1) := by decide +kernel
theorem dX7_setBelow_22 : decode cX7_setBelow 22 = .ok (.iconst 1, 1) := by decide +kernel
theorem dX7_setBelow_23 : decode cX7_setBelow 23 = .ok (.iload_n 3, 1) := by decide +kernel
theorem dX7_setBelow_24 : decode cX7_setBelow 24 = .ok (.ishl, 1) := by decide +kernel
theorem dX7_setBelow_25 : decode cX7_setBelow 25 = .ok (.ior, 1) := by decide +kernel
theorem dX7_setBelow_26 : decode cX7_setBelow 26 = .ok (.istore_n 2, 1) := by decide +kernel
theorem dX7_setBelow_27 : decode cX7_setBelow 27 = .ok (.iinc 3 1, 3) := by decide +kernel
theorem dX7_setBelow_30 : decode cX7_setBelow 30 = .ok (.goto (-26), 3) := by decide +kernel
theorem dX7_setBelow_33 : decode cX7_setBelow 33 = .ok (.iload_n 2, 1) := by decide +kernel
theorem dX7_setBelow_34 : decode cX7_setBelow 34 = .ok (.ireturn, 1) := by decide +kernel
set_option maxRecDepth 20000 in
theorem ggX7_setBelow_X7_isBelow : GoodIn wsX7_setBelow wsX7_isBelow := goodIn_ca (goodIn_r _ [6, 7, 8, 9, 10, 11, 12, 13, 14, 15, 16, 17, 18, 19, 20] (by decide +kernel) (by decide +kernel)) (goodIn_sub (fun _ h => List.mem_cons_of_mem _ (List.mem_append_right _ h)) (by decide +kernel))
set_option maxRecDepth 20000 in
theorem gX7_setBelow_X7_isBelow : GoodIn wsX7_setBelow (wsV RX7 67 RX7 yX7_isBelow wsX7_isBelow) := goodIn_app (goodIn_of _ (by decide +kernel)) ggX7_setBelow_X7_isBelow
def rm_X7_setBelow : Room := { frames := 2, cells := 0, slots := 0, locals := 38 }
set_option maxHeartbeats 4000000 in
set_option maxRecDepth 100000 in
theorem c_X7_setBelow (l : Launch) {nb : Nat} {G : zG} {ad : Nat → Nat} {σ σ' : zs} {a1 : Int32} {r : Int32} (hf : f_X7_setBelow σ a1 = some (r, σ')) : zMi l yX7_setBelow wsX7_setBelow rm_X7_setBelow G (zS nb) ad σ [.ref (ad 2), .int a1] r σ' := by
  intro sz
  refine Met.ofW (cc := cX7_setBelow) (maxL := 4) (ret := (some .int)) (by decide) rfl ?_
  intro p e s m args below meth c s₁ B hml hv
  obtain ⟨rfl, hsz, hv⟩ := hv
  have hx := B.exec
  have hb := B.bytes
  have hr := B.returns
  have hts := atoms_spec (ws := wsX7_setBelow) B.pre
  have hown : s.vm.findClass RX7 = some m.cls := findClass_of_methodNamed B.named
  have hlocks := B.notSynchronized
  subst hsz
  have B := zB_start hv
  have hinRX7 : ∀ w ∈ wsX70, w ∈ wsX7_setBelow := by decide +kernel
  have hl := lv_entry ([.ref (ad 2), .int a1]) (n := 4) (Nat.le_of_ble_eq_true rfl)
  rw [lg_entry_eq]
  generalize (lg_sl ([.ref (ad 2), .int a1]) ++ List.replicate (4 - (lg_sl ([.ref (ad 2), .int a1])).length) Slot.unset).toArray = ls at hl ⊢
  have hl : lv_has ls 4 [(0, .ref (ad 2)), (1, .int a1)] := hl
  generalize hAe : zA ad (zS nb).length s.heap.size = A at B ⊢
  have L4 : ∀ (n : Nat) (σ : zs) (v1 : Int32) (v2 : Int32) (v3 : Int32) (H : Heap) (locs : List Loc) (ls : Array Slot), zlp3 (f_X7_setBelow_4) n σ v1 v2 v3 = some (r, σ') → zB A s G (zS nb) ad σ H locs → lv_has ls 4 [(0, .ref (ad 2)), (1, .int v1), (2, .int v2), (3, .int v3)] → W p l e (headSpec wsX7_setBelow rm_X7_setBelow).room s m ([.ref (ad 2), .int a1] : List Value).toArray below meth c H locs 0 0 (MQ below (va_Qi (fun r' (_ : Unit) => r' = r) (zPost G (zS nb) ad σ') A) ([.ref (ad 2), .int a1] : List Value).toArray s 0 0 A) (F0 m 4 ls []) := by
    intro n
    induction n with
    | zero =>
      intro σ v1 v2 v3 H locs ls hf
      cases hf
    | succ n ih =>
      intro σ v1 v2 v3 H locs ls hf B hl
      have hf : f_X7_setBelow_4 (zlp3 (f_X7_setBelow_4) n) σ v1 v2 v3 = some (r, σ') := hf
      unfold f_X7_setBelow_4 at hf
      refine lv_iload_n hx hb dX7_setBelow_4 rfl (lv_at hl 3 rfl) ?_
      refine lv_aload_n hx hb dX7_setBelow_5 rfl (lv_at hl 0 rfl) ?_
      refine z_geti hx hb hts hinRX7 hown B 2 0 rfl rfl rfl (by decide) (by decide +kernel) rfl dX7_setBelow_6 ?_
      refine lv_icmp_ge (tgt := 33) hx hb dX7_setBelow_9 (by decide) (fun hc => ?_) (fun hc => ?_)
      · have hf := zif_t hc hf
        refine lv_iload_n hx hb dX7_setBelow_33 rfl (lv_at hl 2 rfl) ?_
        refine W.widen (k := 0) (n := 0) (Nat.le_of_ble_eq_true rfl) (Nat.le_of_ble_eq_true rfl) ?_
        exact z_iret hx hb hr rfl hlocks B hf dX7_setBelow_34
      · have hf := zif_f hc hf
        refine lv_aload_n hx hb dX7_setBelow_12 rfl (lv_at hl 0 rfl) ?_
        refine lv_iload_n hx hb dX7_setBelow_13 rfl (lv_at hl 3 rfl) ?_
        refine lv_iload_n hx hb dX7_setBelow_14 rfl (lv_at hl 1 rfl) ?_
        obtain ⟨r2, σ3, hu1, hf⟩ := zb_some hf
        refine z_i B (va_runV (As := [.int v3, .int v1]) (rest := []) ⟨hx, hb, hml, hown, hts⟩ (c_X7_isBelow l hu1 _) (cwV 2 hts gX7_setBelow_X7_isBelow rfl rfl rfl (by decide +kernel) ⟨Nat.le_of_ble_eq_true rfl, Nat.le_of_ble_eq_true rfl⟩) (z_preV B rfl rfl) rfl rfl hl.1 rfl (lv_room (Nat.le_of_ble_eq_true rfl)) dX7_setBelow_15 ⟨Nat.le_of_ble_eq_true rfl, Nat.le_of_ble_eq_true rfl⟩) (fun H locs B => ?_)
        refine lv_if_eq (tgt := 27) hx hb dX7_setBelow_18 (by decide) (fun hc => ?_) (fun hc => ?_)
        · have hf := zif_t hc hf
          refine lv_iinc (v := (v3 + (1 : Int32))) (lv' := [(3, .int (v3 + (1 : Int32))), (0, .ref (ad 2)), (1, .int v1), (2, .int v2)]) hx hb dX7_setBelow_27 hl (k := 3) rfl (zc1 (by decide)) (by decide) rfl (fun ls hl => ?_)
          refine lv_goto (tgt := 4) hx hb dX7_setBelow_30 (by decide) ?_
          exact ih _ _ _ _ _ _ _ hf B (lv_sub hl [1, 2, 3, 0] rfl)
        · have hf := zif_f hc hf
          refine lv_iload_n hx hb dX7_setBelow_21 rfl (lv_at hl 2 rfl) ?_
          refine lv_iconst (v := (1 : Int32)) hx hb dX7_setBelow_22 (by decide) ?_
          refine lv_iload_n hx hb dX7_setBelow_23 rfl (lv_at hl 3 rfl) ?_
          refine lv_ishl hx hb dX7_setBelow_24 ?_
          refine lv_ior hx hb dX7_setBelow_25 ?_
          refine lv_istore_n (lv' := [(2, .int (v2 ||| ((1 : Int32) <<< (v3 &&& 31)))), (0, .ref (ad 2)), (1, .int v1), (3, .int v3)]) hx hb dX7_setBelow_26 rfl hl (by decide) rfl (fun ls hl => ?_)
          refine lv_iinc (v := (v3 + (1 : Int32))) (lv' := [(3, .int (v3 + (1 : Int32))), (2, .int (v2 ||| ((1 : Int32) <<< (v3 &&& 31)))), (0, .ref (ad 2)), (1, .int v1)]) hx hb dX7_setBelow_27 hl (k := 3) rfl (zc1 (by decide)) (by decide) rfl (fun ls hl => ?_)
          refine lv_goto (tgt := 4) hx hb dX7_setBelow_30 (by decide) ?_
          exact ih _ _ _ _ _ _ _ hf B (lv_sub hl [2, 3, 1, 0] rfl)
  unfold f_X7_setBelow at hf
  refine lv_iconst (v := (0 : Int32)) hx hb dX7_setBelow_0 (by decide) ?_
  refine lv_istore_n (lv' := [(2, .int (0 : Int32)), (0, .ref (ad 2)), (1, .int a1)]) hx hb dX7_setBelow_1 rfl hl (by decide) rfl (fun ls hl => ?_)
  refine lv_iconst (v := (0 : Int32)) hx hb dX7_setBelow_2 (by decide) ?_
  refine lv_istore_n (lv' := [(3, .int (0 : Int32)), (2, .int (0 : Int32)), (0, .ref (ad 2)), (1, .int a1)]) hx hb dX7_setBelow_3 rfl hl (by decide) rfl (fun ls hl => ?_)
  exact L4  _ _ _ _ _ _ _ _ hf B (lv_sub hl [2, 3, 1, 0] rfl)
theorem dX7_setHeldBy_0 : decode cX7_setHeldBy 0 = .ok (.iconst 0, 1) := by decide +kernel
theorem dX7_setHeldBy_1 : decode cX7_setHeldBy 1 = .ok (.istore_n 2, 1) := by decide +kernel
theorem dX7_setHeldBy_2 : decode cX7_setHeldBy 2 = .ok (.iconst 0, 1) := by decide +kernel
theorem dX7_setHeldBy_3 : decode cX7_setHeldBy 3 = .ok (.istore_n 3, 1) := by decide +kernel
theorem dX7_setHeldBy_4 : decode cX7_setHeldBy 4 = .ok (.iload_n 3, 1) := by decide +kernel
theorem dX7_setHeldBy_5 : decode cX7_setHeldBy 5 = .ok (.aload_n 0, 1) := by decide +kernel
theorem dX7_setHeldBy_6 : decode cX7_setHeldBy 6 = .ok (.getfield 49, 3) := by decide +kernel
theorem dX7_setHeldBy_9 : decode cX7_setHeldBy 9 = .ok (.if_icmp .ge 28, 3) := by decide +kernel
theorem dX7_setHeldBy_12 : decode cX7_setHeldBy 12 = .ok (.aload_n 0, 1) := by decide +kernel
theorem dX7_setHeldBy_13 : decode cX7_setHeldBy 13 = .ok (.getfield 21, 3) := by decide +kernel
theorem dX7_setHeldBy_16 : decode cX7_setHeldBy 16 = .ok (.iload_n 3, 1) := by decide +kernel
theorem dX7_setHeldBy_17 : decode cX7_setHeldBy 17 = .ok (.iaload, 1) := by decide +kernel
theorem dX7_setHeldBy_18 : decode cX7_setHeldBy 18 = .ok (.iload_n 1, 1) := by decide +kernel
theorem dX7_setHeldBy_19 : decode cX7_setHeldBy 19 = .ok (.invokestatic 71, 3) := by decide +kernel
theorem dX7_setHeldBy_22 : decode cX7_setHeldBy 22 = .ok (.ifCond .eq 9, 3) := by decide +kernel
theorem dX7_setHeldBy_25 : decode cX7_setHeldBy 25 = .ok (.iload_n 2, 1) := by decide +kernel
theorem dX7_setHeldBy_26 : decode cX7_setHeldBy 26 = .ok (.iconst 1, 1) := by decide +kernel
theorem dX7_setHeldBy_27 : decode cX7_setHeldBy 27 = .ok (.iload_n 3, 1) := by decide +kernel
theorem dX7_setHeldBy_28 : decode cX7_setHeldBy 28 = .ok (.ishl, 1) := by decide +kernel
theorem dX7_setHeldBy_29 : decode cX7_setHeldBy 29 = .ok (.ior, 1) := by decide +kernel
theorem dX7_setHeldBy_30 : decode cX7_setHeldBy 30 = .ok (.istore_n 2, 1) := by decide +kernel
theorem dX7_setHeldBy_31 : decode cX7_setHeldBy 31 = .ok (.iinc 3 1, 3) := by decide +kernel
theorem dX7_setHeldBy_34 : decode cX7_setHeldBy 34 = .ok (.goto (-30), 3) := by decide +kernel
theorem dX7_setHeldBy_37 : decode cX7_setHeldBy 37 = .ok (.iload_n 2, 1) := by decide +kernel
theorem dX7_setHeldBy_38 : decode cX7_setHeldBy 38 = .ok (.ireturn, 1) := by decide +kernel
set_option maxRecDepth 20000 in
theorem ggX7_setHeldBy_X8_hasBit : GoodIn wsX7_setHeldBy wsX8_hasBit := goodIn_r _ [5] (by decide +kernel) (by decide +kernel)
set_option maxRecDepth 20000 in
theorem gX7_setHeldBy_X8_hasBit_n71 : GoodIn wsX7_setHeldBy (wsX8_hasBit) := ggX7_setHeldBy_X8_hasBit
def rm_X7_setHeldBy : Room := { frames := 2, cells := 0, slots := 0, locals := 37 }
set_option maxHeartbeats 4000000 in
set_option maxRecDepth 100000 in
theorem c_X7_setHeldBy (l : Launch) {nb : Nat} {G : zG} {ad : Nat → Nat} {σ σ' : zs} {a1 : Int32} {r : Int32} (hf : f_X7_setHeldBy σ a1 = some (r, σ')) : zMi l yX7_setHeldBy wsX7_setHeldBy rm_X7_setHeldBy G (zS nb) ad σ [.ref (ad 2), .int a1] r σ' := by
  intro sz
  refine Met.ofW (cc := cX7_setHeldBy) (maxL := 4) (ret := (some .int)) (by decide) rfl ?_
  intro p e s m args below meth c s₁ B hml hv
  obtain ⟨rfl, hsz, hv⟩ := hv
  have hx := B.exec
  have hb := B.bytes
  have hr := B.returns
  have hts := atoms_spec (ws := wsX7_setHeldBy) B.pre
  have hown : s.vm.findClass RX7 = some m.cls := findClass_of_methodNamed B.named
  have hlocks := B.notSynchronized
  subst hsz
  have B := zB_start hv
  have hinRX7 : ∀ w ∈ wsX70, w ∈ wsX7_setHeldBy := by decide +kernel
  have hl := lv_entry ([.ref (ad 2), .int a1]) (n := 4) (Nat.le_of_ble_eq_true rfl)
  rw [lg_entry_eq]
  generalize (lg_sl ([.ref (ad 2), .int a1]) ++ List.replicate (4 - (lg_sl ([.ref (ad 2), .int a1])).length) Slot.unset).toArray = ls at hl ⊢
  have hl : lv_has ls 4 [(0, .ref (ad 2)), (1, .int a1)] := hl
  generalize hAe : zA ad (zS nb).length s.heap.size = A at B ⊢
  have L4 : ∀ (n : Nat) (σ : zs) (v1 : Int32) (v2 : Int32) (v3 : Int32) (H : Heap) (locs : List Loc) (ls : Array Slot), zlp3 (f_X7_setHeldBy_4) n σ v1 v2 v3 = some (r, σ') → zB A s G (zS nb) ad σ H locs → lv_has ls 4 [(0, .ref (ad 2)), (1, .int v1), (2, .int v2), (3, .int v3)] → W p l e (headSpec wsX7_setHeldBy rm_X7_setHeldBy).room s m ([.ref (ad 2), .int a1] : List Value).toArray below meth c H locs 0 0 (MQ below (va_Qi (fun r' (_ : Unit) => r' = r) (zPost G (zS nb) ad σ') A) ([.ref (ad 2), .int a1] : List Value).toArray s 0 0 A) (F0 m 4 ls []) := by
    intro n
    induction n with
    | zero =>
      intro σ v1 v2 v3 H locs ls hf
      cases hf
    | succ n ih =>
      intro σ v1 v2 v3 H locs ls hf B hl
      have hf : f_X7_setHeldBy_4 (zlp3 (f_X7_setHeldBy_4) n) σ v1 v2 v3 = some (r, σ') := hf
      unfold f_X7_setHeldBy_4 at hf
      refine lv_iload_n hx hb dX7_setHeldBy_4 rfl (lv_at hl 3 rfl) ?_
      refine lv_aload_n hx hb dX7_setHeldBy_5 rfl (lv_at hl 0 rfl) ?_
      refine z_geti hx hb hts hinRX7 hown B 2 0 rfl rfl rfl (by decide) (by decide +kernel) rfl dX7_setHeldBy_6 ?_
      refine lv_icmp_ge (tgt := 37) hx hb dX7_setHeldBy_9 (by decide) (fun hc => ?_) (fun hc => ?_)
      · have hf := zif_t hc hf
        refine lv_iload_n hx hb dX7_setHeldBy_37 rfl (lv_at hl 2 rfl) ?_
        refine W.widen (k := 0) (n := 0) (Nat.le_of_ble_eq_true rfl) (Nat.le_of_ble_eq_true rfl) ?_
        exact z_iret hx hb hr rfl hlocks B hf dX7_setHeldBy_38
      · have hf := zif_f hc hf
        refine lv_aload_n hx hb dX7_setHeldBy_12 rfl (lv_at hl 0 rfl) ?_
        refine z_getr hx hb hts hinRX7 hown B 2 4 6 rfl rfl rfl (by decide) (by decide +kernel) rfl dX7_setHeldBy_13 ?_
        refine lv_iload_n hx hb dX7_setHeldBy_16 rfl (lv_at hl 3 rfl) ?_
        obtain ⟨hg, hf⟩ := zg_some hf
        refine z_iald hx hb B 6 rfl (zin_ok hg) dX7_setHeldBy_17 ?_
        refine lv_iload_n hx hb dX7_setHeldBy_18 rfl (lv_at hl 1 rfl) ?_
        obtain ⟨r2, σ3, hu1, hf⟩ := zb_some hf
        refine z_i B (va_runSN (As := [.int (σ 6 v3.toNatClampNeg), .int v1]) (rest := []) ⟨hx, hb, hml, hown, hts⟩ (c_X8_hasBit l hu1 _) ⟨va_cnB 2 hts gX7_setHeldBy_X8_hasBit_n71 rfl rfl rfl (z_nest B (q := (RX7, 71, yX8_hasBit)) (by decide +kernel)) (hts (.initialized RX8) (by decide +kernel)) (by decide +kernel) ⟨Nat.le_of_ble_eq_true rfl, Nat.le_of_ble_eq_true rfl⟩, hts (.static yX8_hasBit) (by decide +kernel), trivial⟩ (z_preS B) rfl rfl hl.1 rfl (lv_room (Nat.le_of_ble_eq_true rfl)) dX7_setHeldBy_19 ⟨Nat.le_of_ble_eq_true rfl, Nat.le_of_ble_eq_true rfl⟩) (fun H locs B => ?_)
        refine lv_if_eq (tgt := 31) hx hb dX7_setHeldBy_22 (by decide) (fun hc => ?_) (fun hc => ?_)
        · have hf := zif_t hc hf
          refine lv_iinc (v := (v3 + (1 : Int32))) (lv' := [(3, .int (v3 + (1 : Int32))), (0, .ref (ad 2)), (1, .int v1), (2, .int v2)]) hx hb dX7_setHeldBy_31 hl (k := 3) rfl (zc1 (by decide)) (by decide) rfl (fun ls hl => ?_)
          refine lv_goto (tgt := 4) hx hb dX7_setHeldBy_34 (by decide) ?_
          exact ih _ _ _ _ _ _ _ hf B (lv_sub hl [1, 2, 3, 0] rfl)
        · have hf := zif_f hc hf
          refine lv_iload_n hx hb dX7_setHeldBy_25 rfl (lv_at hl 2 rfl) ?_
          refine lv_iconst (v := (1 : Int32)) hx hb dX7_setHeldBy_26 (by decide) ?_
          refine lv_iload_n hx hb dX7_setHeldBy_27 rfl (lv_at hl 3 rfl) ?_
          refine lv_ishl hx hb dX7_setHeldBy_28 ?_
          refine lv_ior hx hb dX7_setHeldBy_29 ?_
          refine lv_istore_n (lv' := [(2, .int (v2 ||| ((1 : Int32) <<< (v3 &&& 31)))), (0, .ref (ad 2)), (1, .int v1), (3, .int v3)]) hx hb dX7_setHeldBy_30 rfl hl (by decide) rfl (fun ls hl => ?_)
          refine lv_iinc (v := (v3 + (1 : Int32))) (lv' := [(3, .int (v3 + (1 : Int32))), (2, .int (v2 ||| ((1 : Int32) <<< (v3 &&& 31)))), (0, .ref (ad 2)), (1, .int v1)]) hx hb dX7_setHeldBy_31 hl (k := 3) rfl (zc1 (by decide)) (by decide) rfl (fun ls hl => ?_)
          refine lv_goto (tgt := 4) hx hb dX7_setHeldBy_34 (by decide) ?_
          exact ih _ _ _ _ _ _ _ hf B (lv_sub hl [2, 3, 1, 0] rfl)
  unfold f_X7_setHeldBy at hf
  refine lv_iconst (v := (0 : Int32)) hx hb dX7_setHeldBy_0 (by decide) ?_
  refine lv_istore_n (lv' := [(2, .int (0 : Int32)), (0, .ref (ad 2)), (1, .int a1)]) hx hb dX7_setHeldBy_1 rfl hl (by decide) rfl (fun ls hl => ?_)
  refine lv_iconst (v := (0 : Int32)) hx hb dX7_setHeldBy_2 (by decide) ?_
  refine lv_istore_n (lv' := [(3, .int (0 : Int32)), (2, .int (0 : Int32)), (0, .ref (ad 2)), (1, .int a1)]) hx hb dX7_setHeldBy_3 rfl hl (by decide) rfl (fun ls hl => ?_)
  exact L4  _ _ _ _ _ _ _ _ hf B (lv_sub hl [2, 3, 1, 0] rfl)
theorem dX7_isEnded_0 : decode cX7_isEnded 0 = .ok (.iconst 0, 1) := by decide +kernel
theorem dX7_isEnded_1 : decode cX7_isEnded 1 = .ok (.istore_n 2, 1) := by decide +kernel
theorem dX7_isEnded_2 : decode cX7_isEnded 2 = .ok (.iload_n 2, 1) := by decide +kernel
theorem dX7_isEnded_3 : decode cX7_isEnded 3 = .ok (.aload_n 0, 1) := by decide +kernel
theorem dX7_isEnded_4 : decode cX7_isEnded 4 = .ok (.getfield 15, 3) := by decide +kernel
theorem dX7_isEnded_7 : decode cX7_isEnded 7 = .ok (.iload_n 1, 1) := by decide +kernel
theorem dX7_isEnded_8 : decode cX7_isEnded 8 = .ok (.iaload, 1) := by decide +kernel
theorem dX7_isEnded_9 : decode cX7_isEnded 9 = .ok (.if_icmp .ge 31, 3) := by decide +kernel
theorem dX7_isEnded_12 : decode cX7_isEnded 12 = .ok (.aload_n 0, 1) := by decide +kernel
theorem dX7_isEnded_13 : decode cX7_isEnded 13 = .ok (.getfield 27, 3) := by decide +kernel
theorem dX7_isEnded_16 : decode cX7_isEnded 16 = .ok (.aload_n 0, 1) := by decide +kernel
theorem dX7_isEnded_17 : decode cX7_isEnded 17 = .ok (.getfield 18, 3) := by decide +kernel
theorem dX7_isEnded_20 : decode cX7_isEnded 20 = .ok (.iload_n 1, 1) := by decide +kernel
theorem dX7_isEnded_21 : decode cX7_isEnded 21 = .ok (.bipush 7, 2) := by decide +kernel
theorem dX7_isEnded_23 : decode cX7_isEnded 23 = .ok (.imul, 1) := by decide +kernel
theorem dX7_isEnded_24 : decode cX7_isEnded 24 = .ok (.iload_n 2, 1) := by decide +kernel
theorem dX7_isEnded_25 : decode cX7_isEnded 25 = .ok (.iadd, 1) := by decide +kernel
theorem dX7_isEnded_26 : decode cX7_isEnded 26 = .ok (.iaload, 1) := by decide +kernel
theorem dX7_isEnded_27 : decode cX7_isEnded 27 = .ok (.iaload, 1) := by decide +kernel
theorem dX7_isEnded_28 : decode cX7_isEnded 28 = .ok (.iconst (-1), 1) := by decide +kernel
theorem dX7_isEnded_29 : decode cX7_isEnded 29 = .ok (.if_icmp .eq 5, 3) := by decide +kernel
theorem dX7_isEnded_32 : decode cX7_isEnded 32 = .ok (.iconst 1, 1) := by decide +kernel
theorem dX7_isEnded_33 : decode cX7_isEnded 33 = .ok (.ireturn, 1) := by decide +kernel
theorem dX7_isEnded_34 : decode cX7_isEnded 34 = .ok (.iinc 2 1, 3) := by decide +kernel
theorem dX7_isEnded_37 : decode cX7_isEnded 37 = .ok (.goto (-35), 3) := by decide +kernel
theorem dX7_isEnded_40 : decode cX7_isEnded 40 = .ok (.iconst 0, 1) := by decide +kernel
theorem dX7_isEnded_41 : decode cX7_isEnded 41 = .ok (.ireturn, 1) := by decide +kernel
def rm_X7_isEnded : Room := { frames := 1, cells := 0, slots := 0, locals := 16 }
set_option maxHeartbeats 4000000 in
set_option maxRecDepth 100000 in
theorem c_X7_isEnded (l : Launch) {nb : Nat} {G : zG} {ad : Nat → Nat} {σ σ' : zs} {a1 : Int32} {r : Int32} (hf : f_X7_isEnded σ a1 = some (r, σ')) : zMi l yX7_isEnded wsX7_isEnded rm_X7_isEnded G (zS nb) ad σ [.ref (ad 2), .int a1] r σ' := by
  intro sz
  refine Met.ofW (cc := cX7_isEnded) (maxL := 3) (ret := (some .boolean)) (by decide) rfl ?_
  intro p e s m args below meth c s₁ B hml hv
  obtain ⟨rfl, hsz, hv⟩ := hv
  have hx := B.exec
  have hb := B.bytes
  have hr := B.returns
  have hts := atoms_spec (ws := wsX7_isEnded) B.pre
  have hown : s.vm.findClass RX7 = some m.cls := findClass_of_methodNamed B.named
  have hlocks := B.notSynchronized
  subst hsz
  have B := zB_start hv
  have hinRX7 : ∀ w ∈ wsX70, w ∈ wsX7_isEnded := by decide +kernel
  have hl := lv_entry ([.ref (ad 2), .int a1]) (n := 3) (Nat.le_of_ble_eq_true rfl)
  rw [lg_entry_eq]
  generalize (lg_sl ([.ref (ad 2), .int a1]) ++ List.replicate (3 - (lg_sl ([.ref (ad 2), .int a1])).length) Slot.unset).toArray = ls at hl ⊢
  have hl : lv_has ls 3 [(0, .ref (ad 2)), (1, .int a1)] := hl
  generalize hAe : zA ad (zS nb).length s.heap.size = A at B ⊢
  have L2 : ∀ (n : Nat) (σ : zs) (v1 : Int32) (v2 : Int32) (H : Heap) (locs : List Loc) (ls : Array Slot), zlp2 (f_X7_isEnded_2) n σ v1 v2 = some (r, σ') → zB A s G (zS nb) ad σ H locs → lv_has ls 3 [(0, .ref (ad 2)), (1, .int v1), (2, .int v2)] → W p l e (headSpec wsX7_isEnded rm_X7_isEnded).room s m ([.ref (ad 2), .int a1] : List Value).toArray below meth c H locs 0 0 (MQ below (va_Qi (fun r' (_ : Unit) => r' = r) (zPost G (zS nb) ad σ') A) ([.ref (ad 2), .int a1] : List Value).toArray s 0 0 A) (F0 m 2 ls []) := by
    intro n
    induction n with
    | zero =>
      intro σ v1 v2 H locs ls hf
      cases hf
    | succ n ih =>
      intro σ v1 v2 H locs ls hf B hl
      have hf : f_X7_isEnded_2 (zlp2 (f_X7_isEnded_2) n) σ v1 v2 = some (r, σ') := hf
      unfold f_X7_isEnded_2 at hf
      refine lv_iload_n hx hb dX7_isEnded_2 rfl (lv_at hl 2 rfl) ?_
      refine lv_aload_n hx hb dX7_isEnded_3 rfl (lv_at hl 0 rfl) ?_
      refine z_getr hx hb hts hinRX7 hown B 2 2 4 rfl rfl rfl (by decide) (by decide +kernel) rfl dX7_isEnded_4 ?_
      refine lv_iload_n hx hb dX7_isEnded_7 rfl (lv_at hl 1 rfl) ?_
      obtain ⟨hg, hf⟩ := zg_some hf
      refine z_iald hx hb B 4 rfl (zin_ok hg) dX7_isEnded_8 ?_
      refine lv_icmp_ge (tgt := 40) hx hb dX7_isEnded_9 (by decide) (fun hc => ?_) (fun hc => ?_)
      · have hf := zif_t hc hf
        refine lv_iconst (v := (0 : Int32)) hx hb dX7_isEnded_40 (by decide) ?_
        refine W.widen (k := 0) (n := 0) (Nat.le_of_ble_eq_true rfl) (Nat.le_of_ble_eq_true rfl) ?_
        exact z_iret hx hb hr (by decide) hlocks B hf dX7_isEnded_41
      · have hf := zif_f hc hf
        refine lv_aload_n hx hb dX7_isEnded_12 rfl (lv_at hl 0 rfl) ?_
        refine z_getr hx hb hts hinRX7 hown B 2 6 8 rfl rfl rfl (by decide) (by decide +kernel) rfl dX7_isEnded_13 ?_
        refine lv_aload_n hx hb dX7_isEnded_16 rfl (lv_at hl 0 rfl) ?_
        refine z_getr hx hb hts hinRX7 hown B 2 3 5 rfl rfl rfl (by decide) (by decide +kernel) rfl dX7_isEnded_17 ?_
        refine lv_iload_n hx hb dX7_isEnded_20 rfl (lv_at hl 1 rfl) ?_
        refine lv_bipush (v := (7 : Int32)) hx hb dX7_isEnded_21 (by decide) ?_
        refine lv_imul hx hb dX7_isEnded_23 ?_
        refine lv_iload_n hx hb dX7_isEnded_24 rfl (lv_at hl 2 rfl) ?_
        refine lv_iadd hx hb dX7_isEnded_25 ?_
        obtain ⟨hg, hf⟩ := zg_some hf
        refine z_iald hx hb B 5 rfl (zin_ok hg) dX7_isEnded_26 ?_
        obtain ⟨hg, hf⟩ := zg_some hf
        refine z_iald hx hb B 8 rfl (zin_ok hg) dX7_isEnded_27 ?_
        refine lv_iconst (v := (-1 : Int32)) hx hb dX7_isEnded_28 (by decide) ?_
        refine lv_icmp_eq (tgt := 34) hx hb dX7_isEnded_29 (by decide) (fun hc => ?_) (fun hc => ?_)
        · have hf := zif_t hc hf
          refine lv_iinc (v := (v2 + (1 : Int32))) (lv' := [(2, .int (v2 + (1 : Int32))), (0, .ref (ad 2)), (1, .int v1)]) hx hb dX7_isEnded_34 hl (k := 2) rfl (zc1 (by decide)) (by decide) rfl (fun ls hl => ?_)
          refine lv_goto (tgt := 2) hx hb dX7_isEnded_37 (by decide) ?_
          exact ih _ _ _ _ _ _ hf B (lv_sub hl [1, 2, 0] rfl)
        · have hf := zif_f hc hf
          refine lv_iconst (v := (1 : Int32)) hx hb dX7_isEnded_32 (by decide) ?_
          refine W.widen (k := 0) (n := 0) (Nat.le_of_ble_eq_true rfl) (Nat.le_of_ble_eq_true rfl) ?_
          exact z_iret hx hb hr (by decide) hlocks B hf dX7_isEnded_33
  unfold f_X7_isEnded at hf
  refine lv_iconst (v := (0 : Int32)) hx hb dX7_isEnded_0 (by decide) ?_
  refine lv_istore_n (lv' := [(2, .int (0 : Int32)), (0, .ref (ad 2)), (1, .int a1)]) hx hb dX7_isEnded_1 rfl hl (by decide) rfl (fun ls hl => ?_)
  exact L2  _ _ _ _ _ _ _ hf B (lv_sub hl [1, 2, 0] rfl)
theorem dX7_setOfLiving_0 : decode cX7_setOfLiving 0 = .ok (.iconst 0, 1) := by decide +kernel
theorem dX7_setOfLiving_1 : decode cX7_setOfLiving 1 = .ok (.istore_n 1, 1) := by decide +kernel
theorem dX7_setOfLiving_2 : decode cX7_setOfLiving 2 = .ok (.iconst 0, 1) := by decide +kernel
theorem dX7_setOfLiving_3 : decode cX7_setOfLiving 3 = .ok (.istore_n 2, 1) := by decide +kernel
theorem dX7_setOfLiving_4 : decode cX7_setOfLiving 4 = .ok (.iload_n 2, 1) := by decide +kernel
theorem dX7_setOfLiving_5 : decode cX7_setOfLiving 5 = .ok (.aload_n 0, 1) := by decide +kernel
theorem dX7_setOfLiving_6 : decode cX7_setOfLiving 6 = .ok (.getfield 49, 3) := by decide +kernel
theorem dX7_setOfLiving_9 : decode cX7_setOfLiving 9 = .ok (.if_icmp .ge 23, 3) := by decide +kernel
theorem dX7_setOfLiving_12 : decode cX7_setOfLiving 12 = .ok (.aload_n 0, 1) := by decide +kernel
theorem dX7_setOfLiving_13 : decode cX7_setOfLiving 13 = .ok (.iload_n 2, 1) := by decide +kernel
theorem dX7_setOfLiving_14 : decode cX7_setOfLiving 14 = .ok (.invokevirtual 74, 3) := by decide +kernel
theorem dX7_setOfLiving_17 : decode cX7_setOfLiving 17 = .ok (.ifCond .ne 9, 3) := by decide +kernel
theorem dX7_setOfLiving_20 : decode cX7_setOfLiving 20 = .ok (.iload_n 1, 1) := by decide +kernel
theorem dX7_setOfLiving_21 : decode cX7_setOfLiving 21 = .ok (.iconst 1, 1) := by decide +kernel
theorem dX7_setOfLiving_22 : decode cX7_setOfLiving 22 = .ok (.iload_n 2, 1) := by decide +kernel
theorem dX7_setOfLiving_23 : decode cX7_setOfLiving 23 = .ok (.ishl, 1) := by decide +kernel
theorem dX7_setOfLiving_24 : decode cX7_setOfLiving 24 = .ok (.ior, 1) := by decide +kernel
theorem dX7_setOfLiving_25 : decode cX7_setOfLiving 25 = .ok (.istore_n 1, 1) := by decide +kernel
theorem dX7_setOfLiving_26 : decode cX7_setOfLiving 26 = .ok (.iinc 2 1, 3) := by decide +kernel
theorem dX7_setOfLiving_29 : decode cX7_setOfLiving 29 = .ok (.goto (-25), 3) := by decide +kernel
theorem dX7_setOfLiving_32 : decode cX7_setOfLiving 32 = .ok (.iload_n 1, 1) := by decide +kernel
theorem dX7_setOfLiving_33 : decode cX7_setOfLiving 33 = .ok (.ireturn, 1) := by decide +kernel
set_option maxRecDepth 20000 in
theorem ggX7_setOfLiving_X7_isEnded : GoodIn wsX7_setOfLiving wsX7_isEnded := goodIn_ca (goodIn_r _ [6, 7, 8, 9, 10, 11, 12, 13, 14, 15, 16, 17, 18, 19, 20, 21] (by decide +kernel) (by decide +kernel)) (goodIn_sub (fun _ h => List.mem_cons_of_mem _ (List.mem_append_right _ h)) (by decide +kernel))
set_option maxRecDepth 20000 in
theorem gX7_setOfLiving_X7_isEnded : GoodIn wsX7_setOfLiving (wsV RX7 74 RX7 yX7_isEnded wsX7_isEnded) := goodIn_app (goodIn_of _ (by decide +kernel)) ggX7_setOfLiving_X7_isEnded
def rm_X7_setOfLiving : Room := { frames := 2, cells := 0, slots := 0, locals := 38 }
set_option maxHeartbeats 4000000 in
set_option maxRecDepth 100000 in
theorem c_X7_setOfLiving (l : Launch) {nb : Nat} {G : zG} {ad : Nat → Nat} {σ σ' : zs} {r : Int32} (hf : f_X7_setOfLiving σ  = some (r, σ')) : zMi l yX7_setOfLiving wsX7_setOfLiving rm_X7_setOfLiving G (zS nb) ad σ [.ref (ad 2)] r σ' := by
  intro sz
  refine Met.ofW (cc := cX7_setOfLiving) (maxL := 3) (ret := (some .int)) (by decide) rfl ?_
  intro p e s m args below meth c s₁ B hml hv
  obtain ⟨rfl, hsz, hv⟩ := hv
  have hx := B.exec
  have hb := B.bytes
  have hr := B.returns
  have hts := atoms_spec (ws := wsX7_setOfLiving) B.pre
  have hown : s.vm.findClass RX7 = some m.cls := findClass_of_methodNamed B.named
  have hlocks := B.notSynchronized
  subst hsz
  have B := zB_start hv
  have hinRX7 : ∀ w ∈ wsX70, w ∈ wsX7_setOfLiving := by decide +kernel
  have hl := lv_entry ([.ref (ad 2)]) (n := 3) (Nat.le_of_ble_eq_true rfl)
  rw [lg_entry_eq]
  generalize (lg_sl ([.ref (ad 2)]) ++ List.replicate (3 - (lg_sl ([.ref (ad 2)])).length) Slot.unset).toArray = ls at hl ⊢
  have hl : lv_has ls 3 [(0, .ref (ad 2))] := hl
  generalize hAe : zA ad (zS nb).length s.heap.size = A at B ⊢
  have L4 : ∀ (n : Nat) (σ : zs) (v1 : Int32) (v2 : Int32) (H : Heap) (locs : List Loc) (ls : Array Slot), zlp2 (f_X7_setOfLiving_4) n σ v1 v2 = some (r, σ') → zB A s G (zS nb) ad σ H locs → lv_has ls 3 [(0, .ref (ad 2)), (1, .int v1), (2, .int v2)] → W p l e (headSpec wsX7_setOfLiving rm_X7_setOfLiving).room s m ([.ref (ad 2)] : List Value).toArray below meth c H locs 0 0 (MQ below (va_Qi (fun r' (_ : Unit) => r' = r) (zPost G (zS nb) ad σ') A) ([.ref (ad 2)] : List Value).toArray s 0 0 A) (F0 m 4 ls []) := by
    intro n
    induction n with
    | zero =>
      intro σ v1 v2 H locs ls hf
      cases hf
    | succ n ih =>
      intro σ v1 v2 H locs ls hf B hl
      have hf : f_X7_setOfLiving_4 (zlp2 (f_X7_setOfLiving_4) n) σ v1 v2 = some (r, σ') := hf
      unfold f_X7_setOfLiving_4 at hf
      refine lv_iload_n hx hb dX7_setOfLiving_4 rfl (lv_at hl 2 rfl) ?_
      refine lv_aload_n hx hb dX7_setOfLiving_5 rfl (lv_at hl 0 rfl) ?_
      refine z_geti hx hb hts hinRX7 hown B 2 0 rfl rfl rfl (by decide) (by decide +kernel) rfl dX7_setOfLiving_6 ?_
      refine lv_icmp_ge (tgt := 32) hx hb dX7_setOfLiving_9 (by decide) (fun hc => ?_) (fun hc => ?_)
      · have hf := zif_t hc hf
        refine lv_iload_n hx hb dX7_setOfLiving_32 rfl (lv_at hl 1 rfl) ?_
        refine W.widen (k := 0) (n := 0) (Nat.le_of_ble_eq_true rfl) (Nat.le_of_ble_eq_true rfl) ?_
        exact z_iret hx hb hr rfl hlocks B hf dX7_setOfLiving_33
      · have hf := zif_f hc hf
        refine lv_aload_n hx hb dX7_setOfLiving_12 rfl (lv_at hl 0 rfl) ?_
        refine lv_iload_n hx hb dX7_setOfLiving_13 rfl (lv_at hl 2 rfl) ?_
        obtain ⟨r2, σ3, hu1, hf⟩ := zb_some hf
        refine z_i B (va_runV (As := [.int v2]) (rest := []) ⟨hx, hb, hml, hown, hts⟩ (c_X7_isEnded l hu1 _) (cwV 1 hts gX7_setOfLiving_X7_isEnded rfl rfl rfl (by decide +kernel) ⟨Nat.le_of_ble_eq_true rfl, Nat.le_of_ble_eq_true rfl⟩) (z_preV B rfl rfl) rfl rfl hl.1 rfl (lv_room (Nat.le_of_ble_eq_true rfl)) dX7_setOfLiving_14 ⟨Nat.le_of_ble_eq_true rfl, Nat.le_of_ble_eq_true rfl⟩) (fun H locs B => ?_)
        refine lv_if_ne (tgt := 26) hx hb dX7_setOfLiving_17 (by decide) (fun hc => ?_) (fun hc => ?_)
        · have hf := zif_f hc hf
          refine lv_iinc (v := (v2 + (1 : Int32))) (lv' := [(2, .int (v2 + (1 : Int32))), (0, .ref (ad 2)), (1, .int v1)]) hx hb dX7_setOfLiving_26 hl (k := 2) rfl (zc1 (by decide)) (by decide) rfl (fun ls hl => ?_)
          refine lv_goto (tgt := 4) hx hb dX7_setOfLiving_29 (by decide) ?_
          exact ih _ _ _ _ _ _ hf B (lv_sub hl [1, 2, 0] rfl)
        · have hf := zif_t hc hf
          refine lv_iload_n hx hb dX7_setOfLiving_20 rfl (lv_at hl 1 rfl) ?_
          refine lv_iconst (v := (1 : Int32)) hx hb dX7_setOfLiving_21 (by decide) ?_
          refine lv_iload_n hx hb dX7_setOfLiving_22 rfl (lv_at hl 2 rfl) ?_
          refine lv_ishl hx hb dX7_setOfLiving_23 ?_
          refine lv_ior hx hb dX7_setOfLiving_24 ?_
          refine lv_istore_n (lv' := [(1, .int (v1 ||| ((1 : Int32) <<< (v2 &&& 31)))), (0, .ref (ad 2)), (2, .int v2)]) hx hb dX7_setOfLiving_25 rfl hl (by decide) rfl (fun ls hl => ?_)
          refine lv_iinc (v := (v2 + (1 : Int32))) (lv' := [(2, .int (v2 + (1 : Int32))), (1, .int (v1 ||| ((1 : Int32) <<< (v2 &&& 31)))), (0, .ref (ad 2))]) hx hb dX7_setOfLiving_26 hl (k := 2) rfl (zc1 (by decide)) (by decide) rfl (fun ls hl => ?_)
          refine lv_goto (tgt := 4) hx hb dX7_setOfLiving_29 (by decide) ?_
          exact ih _ _ _ _ _ _ hf B (lv_sub hl [2, 1, 0] rfl)
  unfold f_X7_setOfLiving at hf
  refine lv_iconst (v := (0 : Int32)) hx hb dX7_setOfLiving_0 (by decide) ?_
  refine lv_istore_n (lv' := [(1, .int (0 : Int32)), (0, .ref (ad 2))]) hx hb dX7_setOfLiving_1 rfl hl (by decide) rfl (fun ls hl => ?_)
  refine lv_iconst (v := (0 : Int32)) hx hb dX7_setOfLiving_2 (by decide) ?_
  refine lv_istore_n (lv' := [(2, .int (0 : Int32)), (1, .int (0 : Int32)), (0, .ref (ad 2))]) hx hb dX7_setOfLiving_3 rfl hl (by decide) rfl (fun ls hl => ?_)
  exact L4  _ _ _ _ _ _ _ hf B (lv_sub hl [2, 1, 0] rfl)
theorem dX7_holdsOfChain_0 : decode cX7_holdsOfChain 0 = .ok (.iconst 0, 1) := by decide +kernel
theorem dX7_holdsOfChain_1 : decode cX7_holdsOfChain 1 = .ok (.istore_n 3, 1) := by decide +kernel
theorem dX7_holdsOfChain_2 : decode cX7_holdsOfChain 2 = .ok (.iload_n 3, 1) := by decide +kernel
theorem dX7_holdsOfChain_3 : decode cX7_holdsOfChain 3 = .ok (.aload_n 0, 1) := by decide +kernel
theorem dX7_holdsOfChain_4 : decode cX7_holdsOfChain 4 = .ok (.getfield 15, 3) := by decide +kernel
theorem dX7_holdsOfChain_7 : decode cX7_holdsOfChain 7 = .ok (.iload_n 2, 1) := by decide +kernel
theorem dX7_holdsOfChain_8 : decode cX7_holdsOfChain 8 = .ok (.iaload, 1) := by decide +kernel
theorem dX7_holdsOfChain_9 : decode cX7_holdsOfChain 9 = .ok (.if_icmp .ge 34, 3) := by decide +kernel
theorem dX7_holdsOfChain_12 : decode cX7_holdsOfChain 12 = .ok (.aload_n 0, 1) := by decide +kernel
theorem dX7_holdsOfChain_13 : decode cX7_holdsOfChain 13 = .ok (.getfield 21, 3) := by decide +kernel
theorem dX7_holdsOfChain_16 : decode cX7_holdsOfChain 16 = .ok (.aload_n 0, 1) := by decide +kernel
theorem dX7_holdsOfChain_17 : decode cX7_holdsOfChain 17 = .ok (.getfield 18, 3) := by decide +kernel
theorem dX7_holdsOfChain_20 : decode cX7_holdsOfChain 20 = .ok (.iload_n 2, 1) := by decide +kernel
theorem dX7_holdsOfChain_21 : decode cX7_holdsOfChain 21 = .ok (.bipush 7, 2) := by decide +kernel
theorem dX7_holdsOfChain_23 : decode cX7_holdsOfChain 23 = .ok (.imul, 1) := by decide +kernel
theorem dX7_holdsOfChain_24 : decode cX7_holdsOfChain 24 = .ok (.iload_n 3, 1) := by decide +kernel
theorem dX7_holdsOfChain_25 : decode cX7_holdsOfChain 25 = .ok (.iadd, 1) := by decide +kernel
theorem dX7_holdsOfChain_26 : decode cX7_holdsOfChain 26 = .ok (.iaload, 1) := by decide +kernel
theorem dX7_holdsOfChain_27 : decode cX7_holdsOfChain 27 = .ok (.iaload, 1) := by decide +kernel
theorem dX7_holdsOfChain_28 : decode cX7_holdsOfChain 28 = .ok (.iload_n 1, 1) := by decide +kernel
theorem dX7_holdsOfChain_29 : decode cX7_holdsOfChain 29 = .ok (.invokestatic 71, 3) := by decide +kernel
theorem dX7_holdsOfChain_32 : decode cX7_holdsOfChain 32 = .ok (.ifCond .eq 5, 3) := by decide +kernel
theorem dX7_holdsOfChain_35 : decode cX7_holdsOfChain 35 = .ok (.iconst 1, 1) := by decide +kernel
theorem dX7_holdsOfChain_36 : decode cX7_holdsOfChain 36 = .ok (.ireturn, 1) := by decide +kernel
theorem dX7_holdsOfChain_37 : decode cX7_holdsOfChain 37 = .ok (.iinc 3 1, 3) := by decide +kernel
theorem dX7_holdsOfChain_40 : decode cX7_holdsOfChain 40 = .ok (.goto (-38), 3) := by decide +kernel
theorem dX7_holdsOfChain_43 : decode cX7_holdsOfChain 43 = .ok (.iconst 0, 1) := by decide +kernel
theorem dX7_holdsOfChain_44 : decode cX7_holdsOfChain 44 = .ok (.ireturn, 1) := by decide +kernel
set_option maxRecDepth 20000 in
theorem ggX7_holdsOfChain_X8_hasBit : GoodIn wsX7_holdsOfChain wsX8_hasBit := goodIn_r _ [6] (by decide +kernel) (by decide +kernel)
set_option maxRecDepth 20000 in
theorem gX7_holdsOfChain_X8_hasBit_n71 : GoodIn wsX7_holdsOfChain (wsX8_hasBit) := ggX7_holdsOfChain_X8_hasBit
def rm_X7_holdsOfChain : Room := { frames := 2, cells := 0, slots := 0, locals := 37 }
set_option maxHeartbeats 4000000 in
set_option maxRecDepth 100000 in
theorem c_X7_holdsOfChain (l : Launch) {nb : Nat} {G : zG} {ad : Nat → Nat} {σ σ' : zs} {a1 a2 : Int32} {r : Int32} (hf : f_X7_holdsOfChain σ a1 a2 = some (r, σ')) : zMi l yX7_holdsOfChain wsX7_holdsOfChain rm_X7_holdsOfChain G (zS nb) ad σ [.ref (ad 2), .int a1, .int a2] r σ' := by
  intro sz
  refine Met.ofW (cc := cX7_holdsOfChain) (maxL := 4) (ret := (some .boolean)) (by decide) rfl ?_
  intro p e s m args below meth c s₁ B hml hv
  obtain ⟨rfl, hsz, hv⟩ := hv
  have hx := B.exec
  have hb := B.bytes
  have hr := B.returns
  have hts := atoms_spec (ws := wsX7_holdsOfChain) B.pre
  have hown : s.vm.findClass RX7 = some m.cls := findClass_of_methodNamed B.named
  have hlocks := B.notSynchronized
  subst hsz
  have B := zB_start hv
  have hinRX7 : ∀ w ∈ wsX70, w ∈ wsX7_holdsOfChain := by decide +kernel
  have hl := lv_entry ([.ref (ad 2), .int a1, .int a2]) (n := 4) (Nat.le_of_ble_eq_true rfl)
  rw [lg_entry_eq]
  generalize (lg_sl ([.ref (ad 2), .int a1, .int a2]) ++ List.replicate (4 - (lg_sl ([.ref (ad 2), .int a1, .int a2])).length) Slot.unset).toArray = ls at hl ⊢
  have hl : lv_has ls 4 [(0, .ref (ad 2)), (1, .int a1), (2, .int a2)] := hl
  generalize hAe : zA ad (zS nb).length s.heap.size = A at B ⊢
  have L2 : ∀ (n : Nat) (σ : zs) (v1 : Int32) (v2 : Int32) (v3 : Int32) (H : Heap) (locs : List Loc) (ls : Array Slot), zlp3 (f_X7_holdsOfChain_2) n σ v1 v2 v3 = some (r, σ') → zB A s G (zS nb) ad σ H locs → lv_has ls 4 [(0, .ref (ad 2)), (1, .int v1), (2, .int v2), (3, .int v3)] → W p l e (headSpec wsX7_holdsOfChain rm_X7_holdsOfChain).room s m ([.ref (ad 2), .int a1, .int a2] : List Value).toArray below meth c H locs 0 0 (MQ below (va_Qi (fun r' (_ : Unit) => r' = r) (zPost G (zS nb) ad σ') A) ([.ref (ad 2), .int a1, .int a2] : List Value).toArray s 0 0 A) (F0 m 2 ls []) := by
    intro n
    induction n with
    | zero =>
      intro σ v1 v2 v3 H locs ls hf
      cases hf
    | succ n ih =>
      intro σ v1 v2 v3 H locs ls hf B hl
      have hf : f_X7_holdsOfChain_2 (zlp3 (f_X7_holdsOfChain_2) n) σ v1 v2 v3 = some (r, σ') := hf
      unfold f_X7_holdsOfChain_2 at hf
      refine lv_iload_n hx hb dX7_holdsOfChain_2 rfl (lv_at hl 3 rfl) ?_
      refine lv_aload_n hx hb dX7_holdsOfChain_3 rfl (lv_at hl 0 rfl) ?_
      refine z_getr hx hb hts hinRX7 hown B 2 2 4 rfl rfl rfl (by decide) (by decide +kernel) rfl dX7_holdsOfChain_4 ?_
      refine lv_iload_n hx hb dX7_holdsOfChain_7 rfl (lv_at hl 2 rfl) ?_
      obtain ⟨hg, hf⟩ := zg_some hf
      refine z_iald hx hb B 4 rfl (zin_ok hg) dX7_holdsOfChain_8 ?_
      refine lv_icmp_ge (tgt := 43) hx hb dX7_holdsOfChain_9 (by decide) (fun hc => ?_) (fun hc => ?_)
      · have hf := zif_t hc hf
        refine lv_iconst (v := (0 : Int32)) hx hb dX7_holdsOfChain_43 (by decide) ?_
        refine W.widen (k := 0) (n := 0) (Nat.le_of_ble_eq_true rfl) (Nat.le_of_ble_eq_true rfl) ?_
        exact z_iret hx hb hr (by decide) hlocks B hf dX7_holdsOfChain_44
      · have hf := zif_f hc hf
        refine lv_aload_n hx hb dX7_holdsOfChain_12 rfl (lv_at hl 0 rfl) ?_
        refine z_getr hx hb hts hinRX7 hown B 2 4 6 rfl rfl rfl (by decide) (by decide +kernel) rfl dX7_holdsOfChain_13 ?_
        refine lv_aload_n hx hb dX7_holdsOfChain_16 rfl (lv_at hl 0 rfl) ?_
        refine z_getr hx hb hts hinRX7 hown B 2 3 5 rfl rfl rfl (by decide) (by decide +kernel) rfl dX7_holdsOfChain_17 ?_
        refine lv_iload_n hx hb dX7_holdsOfChain_20 rfl (lv_at hl 2 rfl) ?_
        refine lv_bipush (v := (7 : Int32)) hx hb dX7_holdsOfChain_21 (by decide) ?_
        refine lv_imul hx hb dX7_holdsOfChain_23 ?_
        refine lv_iload_n hx hb dX7_holdsOfChain_24 rfl (lv_at hl 3 rfl) ?_
        refine lv_iadd hx hb dX7_holdsOfChain_25 ?_
        obtain ⟨hg, hf⟩ := zg_some hf
        refine z_iald hx hb B 5 rfl (zin_ok hg) dX7_holdsOfChain_26 ?_
        obtain ⟨hg, hf⟩ := zg_some hf
        refine z_iald hx hb B 6 rfl (zin_ok hg) dX7_holdsOfChain_27 ?_
        refine lv_iload_n hx hb dX7_holdsOfChain_28 rfl (lv_at hl 1 rfl) ?_
        obtain ⟨r2, σ3, hu1, hf⟩ := zb_some hf
        refine z_i B (va_runSN (As := [.int (σ 6 (σ 5 ((v2 * (7 : Int32)) + v3).toNatClampNeg).toNatClampNeg), .int v1]) (rest := []) ⟨hx, hb, hml, hown, hts⟩ (c_X8_hasBit l hu1 _) ⟨va_cnB 2 hts gX7_holdsOfChain_X8_hasBit_n71 rfl rfl rfl (z_nest B (q := (RX7, 71, yX8_hasBit)) (by decide +kernel)) (hts (.initialized RX8) (by decide +kernel)) (by decide +kernel) ⟨Nat.le_of_ble_eq_true rfl, Nat.le_of_ble_eq_true rfl⟩, hts (.static yX8_hasBit) (by decide +kernel), trivial⟩ (z_preS B) rfl rfl hl.1 rfl (lv_room (Nat.le_of_ble_eq_true rfl)) dX7_holdsOfChain_29 ⟨Nat.le_of_ble_eq_true rfl, Nat.le_of_ble_eq_true rfl⟩) (fun H locs B => ?_)
        refine lv_if_eq (tgt := 37) hx hb dX7_holdsOfChain_32 (by decide) (fun hc => ?_) (fun hc => ?_)
        · have hf := zif_t hc hf
          refine lv_iinc (v := (v3 + (1 : Int32))) (lv' := [(3, .int (v3 + (1 : Int32))), (0, .ref (ad 2)), (1, .int v1), (2, .int v2)]) hx hb dX7_holdsOfChain_37 hl (k := 3) rfl (zc1 (by decide)) (by decide) rfl (fun ls hl => ?_)
          refine lv_goto (tgt := 2) hx hb dX7_holdsOfChain_40 (by decide) ?_
          exact ih _ _ _ _ _ _ _ hf B (lv_sub hl [1, 2, 3, 0] rfl)
        · have hf := zif_f hc hf
          refine lv_iconst (v := (1 : Int32)) hx hb dX7_holdsOfChain_35 (by decide) ?_
          refine W.widen (k := 0) (n := 0) (Nat.le_of_ble_eq_true rfl) (Nat.le_of_ble_eq_true rfl) ?_
          exact z_iret hx hb hr (by decide) hlocks B hf dX7_holdsOfChain_36
  unfold f_X7_holdsOfChain at hf
  refine lv_iconst (v := (0 : Int32)) hx hb dX7_holdsOfChain_0 (by decide) ?_
  refine lv_istore_n (lv' := [(3, .int (0 : Int32)), (0, .ref (ad 2)), (1, .int a1), (2, .int a2)]) hx hb dX7_holdsOfChain_1 rfl hl (by decide) rfl (fun ls hl => ?_)
  exact L2  _ _ _ _ _ _ _ _ hf B (lv_sub hl [1, 2, 3, 0] rfl)
theorem dX7_derivedFrom_0 : decode cX7_derivedFrom 0 = .ok (.iconst 0, 1) := by decide +kernel
theorem dX7_derivedFrom_1 : decode cX7_derivedFrom 1 = .ok (.istore_n 2, 1) := by decide +kernel
theorem dX7_derivedFrom_2 : decode cX7_derivedFrom 2 = .ok (.iconst 0, 1) := by decide +kernel
theorem dX7_derivedFrom_3 : decode cX7_derivedFrom 3 = .ok (.istore_n 3, 1) := by decide +kernel
theorem dX7_derivedFrom_4 : decode cX7_derivedFrom 4 = .ok (.iload_n 3, 1) := by decide +kernel
theorem dX7_derivedFrom_5 : decode cX7_derivedFrom 5 = .ok (.aload_n 0, 1) := by decide +kernel
theorem dX7_derivedFrom_6 : decode cX7_derivedFrom 6 = .ok (.getfield 49, 3) := by decide +kernel
theorem dX7_derivedFrom_9 : decode cX7_derivedFrom 9 = .ok (.if_icmp .ge 21, 3) := by decide +kernel
theorem dX7_derivedFrom_12 : decode cX7_derivedFrom 12 = .ok (.aload_n 0, 1) := by decide +kernel
theorem dX7_derivedFrom_13 : decode cX7_derivedFrom 13 = .ok (.iload_n 3, 1) := by decide +kernel
theorem dX7_derivedFrom_14 : decode cX7_derivedFrom 14 = .ok (.invokevirtual 78, 3) := by decide +kernel
theorem dX7_derivedFrom_17 : decode cX7_derivedFrom 17 = .ok (.iload_n 1, 1) := by decide +kernel
theorem dX7_derivedFrom_18 : decode cX7_derivedFrom 18 = .ok (.if_icmp .ne 6, 3) := by decide +kernel
theorem dX7_derivedFrom_21 : decode cX7_derivedFrom 21 = .ok (.iinc 2 1, 3) := by decide +kernel
theorem dX7_derivedFrom_24 : decode cX7_derivedFrom 24 = .ok (.iinc 3 1, 3) := by decide +kernel
theorem dX7_derivedFrom_27 : decode cX7_derivedFrom 27 = .ok (.goto (-23), 3) := by decide +kernel
theorem dX7_derivedFrom_30 : decode cX7_derivedFrom 30 = .ok (.iload_n 2, 1) := by decide +kernel
theorem dX7_derivedFrom_31 : decode cX7_derivedFrom 31 = .ok (.ireturn, 1) := by decide +kernel
set_option maxRecDepth 20000 in
theorem ggX7_derivedFrom_X7_parentOf : GoodIn wsX7_derivedFrom wsX7_parentOf := goodIn_ca (goodIn_r _ [6, 7, 8, 9, 10, 11, 12, 13, 14, 15, 16, 17, 18, 19, 20] (by decide +kernel) (by decide +kernel)) (goodIn_sub (fun _ h => List.mem_cons_of_mem _ (List.mem_append_right _ h)) (by decide +kernel))
set_option maxRecDepth 20000 in
theorem gX7_derivedFrom_X7_parentOf : GoodIn wsX7_derivedFrom (wsV RX7 78 RX7 yX7_parentOf wsX7_parentOf) := goodIn_app (goodIn_of _ (by decide +kernel)) ggX7_derivedFrom_X7_parentOf
def rm_X7_derivedFrom : Room := { frames := 2, cells := 0, slots := 0, locals := 37 }
set_option maxHeartbeats 4000000 in
set_option maxRecDepth 100000 in
theorem c_X7_derivedFrom (l : Launch) {nb : Nat} {G : zG} {ad : Nat → Nat} {σ σ' : zs} {a1 : Int32} {r : Int32} (hf : f_X7_derivedFrom σ a1 = some (r, σ')) : zMi l yX7_derivedFrom wsX7_derivedFrom rm_X7_derivedFrom G (zS nb) ad σ [.ref (ad 2), .int a1] r σ' := by
  intro sz
  refine Met.ofW (cc := cX7_derivedFrom) (maxL := 4) (ret := (some .int)) (by decide) rfl ?_
  intro p e s m args below meth c s₁ B hml hv
  obtain ⟨rfl, hsz, hv⟩ := hv
  have hx := B.exec
  have hb := B.bytes
  have hr := B.returns
  have hts := atoms_spec (ws := wsX7_derivedFrom) B.pre
  have hown : s.vm.findClass RX7 = some m.cls := findClass_of_methodNamed B.named
  have hlocks := B.notSynchronized
  subst hsz
  have B := zB_start hv
  have hinRX7 : ∀ w ∈ wsX70, w ∈ wsX7_derivedFrom := by decide +kernel
  have hl := lv_entry ([.ref (ad 2), .int a1]) (n := 4) (Nat.le_of_ble_eq_true rfl)
  rw [lg_entry_eq]
  generalize (lg_sl ([.ref (ad 2), .int a1]) ++ List.replicate (4 - (lg_sl ([.ref (ad 2), .int a1])).length) Slot.unset).toArray = ls at hl ⊢
  have hl : lv_has ls 4 [(0, .ref (ad 2)), (1, .int a1)] := hl
  generalize hAe : zA ad (zS nb).length s.heap.size = A at B ⊢
  have L4 : ∀ (n : Nat) (σ : zs) (v1 : Int32) (v2 : Int32) (v3 : Int32) (H : Heap) (locs : List Loc) (ls : Array Slot), zlp3 (f_X7_derivedFrom_4) n σ v1 v2 v3 = some (r, σ') → zB A s G (zS nb) ad σ H locs → lv_has ls 4 [(0, .ref (ad 2)), (1, .int v1), (2, .int v2), (3, .int v3)] → W p l e (headSpec wsX7_derivedFrom rm_X7_derivedFrom).room s m ([.ref (ad 2), .int a1] : List Value).toArray below meth c H locs 0 0 (MQ below (va_Qi (fun r' (_ : Unit) => r' = r) (zPost G (zS nb) ad σ') A) ([.ref (ad 2), .int a1] : List Value).toArray s 0 0 A) (F0 m 4 ls []) := by
    intro n
    induction n with
    | zero =>
      intro σ v1 v2 v3 H locs ls hf
      cases hf
    | succ n ih =>
      intro σ v1 v2 v3 H locs ls hf B hl
      have hf : f_X7_derivedFrom_4 (zlp3 (f_X7_derivedFrom_4) n) σ v1 v2 v3 = some (r, σ') := hf
      unfold f_X7_derivedFrom_4 at hf
      refine lv_iload_n hx hb dX7_derivedFrom_4 rfl (lv_at hl 3 rfl) ?_
      refine lv_aload_n hx hb dX7_derivedFrom_5 rfl (lv_at hl 0 rfl) ?_
      refine z_geti hx hb hts hinRX7 hown B 2 0 rfl rfl rfl (by decide) (by decide +kernel) rfl dX7_derivedFrom_6 ?_
      refine lv_icmp_ge (tgt := 30) hx hb dX7_derivedFrom_9 (by decide) (fun hc => ?_) (fun hc => ?_)
      · have hf := zif_t hc hf
        refine lv_iload_n hx hb dX7_derivedFrom_30 rfl (lv_at hl 2 rfl) ?_
        refine W.widen (k := 0) (n := 0) (Nat.le_of_ble_eq_true rfl) (Nat.le_of_ble_eq_true rfl) ?_
        exact z_iret hx hb hr rfl hlocks B hf dX7_derivedFrom_31
      · have hf := zif_f hc hf
        refine lv_aload_n hx hb dX7_derivedFrom_12 rfl (lv_at hl 0 rfl) ?_
        refine lv_iload_n hx hb dX7_derivedFrom_13 rfl (lv_at hl 3 rfl) ?_
        obtain ⟨r2, σ3, hu1, hf⟩ := zb_some hf
        refine z_i B (va_runV (As := [.int v3]) (rest := []) ⟨hx, hb, hml, hown, hts⟩ (c_X7_parentOf l hu1 _) (cwV 1 hts gX7_derivedFrom_X7_parentOf rfl rfl rfl (by decide +kernel) ⟨Nat.le_of_ble_eq_true rfl, Nat.le_of_ble_eq_true rfl⟩) (z_preV B rfl rfl) rfl rfl hl.1 rfl (lv_room (Nat.le_of_ble_eq_true rfl)) dX7_derivedFrom_14 ⟨Nat.le_of_ble_eq_true rfl, Nat.le_of_ble_eq_true rfl⟩) (fun H locs B => ?_)
        refine lv_iload_n hx hb dX7_derivedFrom_17 rfl (lv_at hl 1 rfl) ?_
        refine lv_icmp_ne (tgt := 24) hx hb dX7_derivedFrom_18 (by decide) (fun hc => ?_) (fun hc => ?_)
        · have hf := zif_f hc hf
          refine lv_iinc (v := (v3 + (1 : Int32))) (lv' := [(3, .int (v3 + (1 : Int32))), (0, .ref (ad 2)), (1, .int v1), (2, .int v2)]) hx hb dX7_derivedFrom_24 hl (k := 3) rfl (zc1 (by decide)) (by decide) rfl (fun ls hl => ?_)
          refine lv_goto (tgt := 4) hx hb dX7_derivedFrom_27 (by decide) ?_
          exact ih _ _ _ _ _ _ _ hf B (lv_sub hl [1, 2, 3, 0] rfl)
        · have hf := zif_t hc hf
          refine lv_iinc (v := (v2 + (1 : Int32))) (lv' := [(2, .int (v2 + (1 : Int32))), (0, .ref (ad 2)), (1, .int v1), (3, .int v3)]) hx hb dX7_derivedFrom_21 hl (k := 2) rfl (zc1 (by decide)) (by decide) rfl (fun ls hl => ?_)
          refine lv_iinc (v := (v3 + (1 : Int32))) (lv' := [(3, .int (v3 + (1 : Int32))), (2, .int (v2 + (1 : Int32))), (0, .ref (ad 2)), (1, .int v1)]) hx hb dX7_derivedFrom_24 hl (k := 3) rfl (zc1 (by decide)) (by decide) rfl (fun ls hl => ?_)
          refine lv_goto (tgt := 4) hx hb dX7_derivedFrom_27 (by decide) ?_
          exact ih _ _ _ _ _ _ _ hf B (lv_sub hl [2, 3, 1, 0] rfl)
  unfold f_X7_derivedFrom at hf
  refine lv_iconst (v := (0 : Int32)) hx hb dX7_derivedFrom_0 (by decide) ?_
  refine lv_istore_n (lv' := [(2, .int (0 : Int32)), (0, .ref (ad 2)), (1, .int a1)]) hx hb dX7_derivedFrom_1 rfl hl (by decide) rfl (fun ls hl => ?_)
  refine lv_iconst (v := (0 : Int32)) hx hb dX7_derivedFrom_2 (by decide) ?_
  refine lv_istore_n (lv' := [(3, .int (0 : Int32)), (2, .int (0 : Int32)), (0, .ref (ad 2)), (1, .int a1)]) hx hb dX7_derivedFrom_3 rfl hl (by decide) rfl (fun ls hl => ?_)
  exact L4  _ _ _ _ _ _ _ _ hf B (lv_sub hl [2, 3, 1, 0] rfl)
theorem dX7_numberFor_0 : decode cX7_numberFor 0 = .ok (.iconst 0, 1) := by decide +kernel
theorem dX7_numberFor_1 : decode cX7_numberFor 1 = .ok (.istore_n 2, 1) := by decide +kernel
theorem dX7_numberFor_2 : decode cX7_numberFor 2 = .ok (.iconst 0, 1) := by decide +kernel
theorem dX7_numberFor_3 : decode cX7_numberFor 3 = .ok (.istore_n 3, 1) := by decide +kernel
theorem dX7_numberFor_4 : decode cX7_numberFor 4 = .ok (.iload_n 3, 1) := by decide +kernel
theorem dX7_numberFor_5 : decode cX7_numberFor 5 = .ok (.aload_n 0, 1) := by decide +kernel
theorem dX7_numberFor_6 : decode cX7_numberFor 6 = .ok (.getfield 49, 3) := by decide +kernel
theorem dX7_numberFor_9 : decode cX7_numberFor 9 = .ok (.if_icmp .ge 22, 3) := by decide +kernel
theorem dX7_numberFor_12 : decode cX7_numberFor 12 = .ok (.aload_n 0, 1) := by decide +kernel
theorem dX7_numberFor_13 : decode cX7_numberFor 13 = .ok (.getfield 9, 3) := by decide +kernel
theorem dX7_numberFor_16 : decode cX7_numberFor 16 = .ok (.iload_n 3, 1) := by decide +kernel
theorem dX7_numberFor_17 : decode cX7_numberFor 17 = .ok (.iaload, 1) := by decide +kernel
theorem dX7_numberFor_18 : decode cX7_numberFor 18 = .ok (.iload_n 1, 1) := by decide +kernel
theorem dX7_numberFor_19 : decode cX7_numberFor 19 = .ok (.if_icmp .ne 6, 3) := by decide +kernel
theorem dX7_numberFor_22 : decode cX7_numberFor 22 = .ok (.iinc 2 1, 3) := by decide +kernel
theorem dX7_numberFor_25 : decode cX7_numberFor 25 = .ok (.iinc 3 1, 3) := by decide +kernel
theorem dX7_numberFor_28 : decode cX7_numberFor 28 = .ok (.goto (-24), 3) := by decide +kernel
theorem dX7_numberFor_31 : decode cX7_numberFor 31 = .ok (.iload_n 2, 1) := by decide +kernel
theorem dX7_numberFor_32 : decode cX7_numberFor 32 = .ok (.ireturn, 1) := by decide +kernel
def rm_X7_numberFor : Room := { frames := 1, cells := 0, slots := 0, locals := 16 }
set_option maxHeartbeats 4000000 in
set_option maxRecDepth 100000 in
theorem c_X7_numberFor (l : Launch) {nb : Nat} {G : zG} {ad : Nat → Nat} {σ σ' : zs} {a1 : Int32} {r : Int32} (hf : f_X7_numberFor σ a1 = some (r, σ')) : zMi l yX7_numberFor wsX7_numberFor rm_X7_numberFor G (zS nb) ad σ [.ref (ad 2), .int a1] r σ' := by
  intro sz
  refine Met.ofW (cc := cX7_numberFor) (maxL := 4) (ret := (some .int)) (by decide) rfl ?_
  intro p e s m args below meth c s₁ B hml hv
  obtain ⟨rfl, hsz, hv⟩ := hv
  have hx := B.exec
  have hb := B.bytes
  have hr := B.returns
  have hts := atoms_spec (ws := wsX7_numberFor) B.pre
  have hown : s.vm.findClass RX7 = some m.cls := findClass_of_methodNamed B.named
  have hlocks := B.notSynchronized
  subst hsz
  have B := zB_start hv
  have hinRX7 : ∀ w ∈ wsX70, w ∈ wsX7_numberFor := by decide +kernel
  have hl := lv_entry ([.ref (ad 2), .int a1]) (n := 4) (Nat.le_of_ble_eq_true rfl)
  rw [lg_entry_eq]
  generalize (lg_sl ([.ref (ad 2), .int a1]) ++ List.replicate (4 - (lg_sl ([.ref (ad 2), .int a1])).length) Slot.unset).toArray = ls at hl ⊢
  have hl : lv_has ls 4 [(0, .ref (ad 2)), (1, .int a1)] := hl
  generalize hAe : zA ad (zS nb).length s.heap.size = A at B ⊢
  have L4 : ∀ (n : Nat) (σ : zs) (v1 : Int32) (v2 : Int32) (v3 : Int32) (H : Heap) (locs : List Loc) (ls : Array Slot), zlp3 (f_X7_numberFor_4) n σ v1 v2 v3 = some (r, σ') → zB A s G (zS nb) ad σ H locs → lv_has ls 4 [(0, .ref (ad 2)), (1, .int v1), (2, .int v2), (3, .int v3)] → W p l e (headSpec wsX7_numberFor rm_X7_numberFor).room s m ([.ref (ad 2), .int a1] : List Value).toArray below meth c H locs 0 0 (MQ below (va_Qi (fun r' (_ : Unit) => r' = r) (zPost G (zS nb) ad σ') A) ([.ref (ad 2), .int a1] : List Value).toArray s 0 0 A) (F0 m 4 ls []) := by
    intro n
    induction n with
    | zero =>
      intro σ v1 v2 v3 H locs ls hf
      cases hf
    | succ n ih =>
      intro σ v1 v2 v3 H locs ls hf B hl
      have hf : f_X7_numberFor_4 (zlp3 (f_X7_numberFor_4) n) σ v1 v2 v3 = some (r, σ') := hf
      unfold f_X7_numberFor_4 at hf
      refine lv_iload_n hx hb dX7_numberFor_4 rfl (lv_at hl 3 rfl) ?_
      refine lv_aload_n hx hb dX7_numberFor_5 rfl (lv_at hl 0 rfl) ?_
      refine z_geti hx hb hts hinRX7 hown B 2 0 rfl rfl rfl (by decide) (by decide +kernel) rfl dX7_numberFor_6 ?_
      refine lv_icmp_ge (tgt := 31) hx hb dX7_numberFor_9 (by decide) (fun hc => ?_) (fun hc => ?_)
      · have hf := zif_t hc hf
        refine lv_iload_n hx hb dX7_numberFor_31 rfl (lv_at hl 2 rfl) ?_
        refine W.widen (k := 0) (n := 0) (Nat.le_of_ble_eq_true rfl) (Nat.le_of_ble_eq_true rfl) ?_
        exact z_iret hx hb hr rfl hlocks B hf dX7_numberFor_32
      · have hf := zif_f hc hf
        refine lv_aload_n hx hb dX7_numberFor_12 rfl (lv_at hl 0 rfl) ?_
        refine z_getr hx hb hts hinRX7 hown B 2 1 3 rfl rfl rfl (by decide) (by decide +kernel) rfl dX7_numberFor_13 ?_
        refine lv_iload_n hx hb dX7_numberFor_16 rfl (lv_at hl 3 rfl) ?_
        obtain ⟨hg, hf⟩ := zg_some hf
        refine z_iald hx hb B 3 rfl (zin_ok hg) dX7_numberFor_17 ?_
        refine lv_iload_n hx hb dX7_numberFor_18 rfl (lv_at hl 1 rfl) ?_
        refine lv_icmp_ne (tgt := 25) hx hb dX7_numberFor_19 (by decide) (fun hc => ?_) (fun hc => ?_)
        · have hf := zif_f hc hf
          refine lv_iinc (v := (v3 + (1 : Int32))) (lv' := [(3, .int (v3 + (1 : Int32))), (0, .ref (ad 2)), (1, .int v1), (2, .int v2)]) hx hb dX7_numberFor_25 hl (k := 3) rfl (zc1 (by decide)) (by decide) rfl (fun ls hl => ?_)
          refine lv_goto (tgt := 4) hx hb dX7_numberFor_28 (by decide) ?_
          exact ih _ _ _ _ _ _ _ hf B (lv_sub hl [1, 2, 3, 0] rfl)
        · have hf := zif_t hc hf
          refine lv_iinc (v := (v2 + (1 : Int32))) (lv' := [(2, .int (v2 + (1 : Int32))), (0, .ref (ad 2)), (1, .int v1), (3, .int v3)]) hx hb dX7_numberFor_22 hl (k := 2) rfl (zc1 (by decide)) (by decide) rfl (fun ls hl => ?_)
          refine lv_iinc (v := (v3 + (1 : Int32))) (lv' := [(3, .int (v3 + (1 : Int32))), (2, .int (v2 + (1 : Int32))), (0, .ref (ad 2)), (1, .int v1)]) hx hb dX7_numberFor_25 hl (k := 3) rfl (zc1 (by decide)) (by decide) rfl (fun ls hl => ?_)
          refine lv_goto (tgt := 4) hx hb dX7_numberFor_28 (by decide) ?_
          exact ih _ _ _ _ _ _ _ hf B (lv_sub hl [2, 3, 1, 0] rfl)
  unfold f_X7_numberFor at hf
  refine lv_iconst (v := (0 : Int32)) hx hb dX7_numberFor_0 (by decide) ?_
  refine lv_istore_n (lv' := [(2, .int (0 : Int32)), (0, .ref (ad 2)), (1, .int a1)]) hx hb dX7_numberFor_1 rfl hl (by decide) rfl (fun ls hl => ?_)
  refine lv_iconst (v := (0 : Int32)) hx hb dX7_numberFor_2 (by decide) ?_
  refine lv_istore_n (lv' := [(3, .int (0 : Int32)), (2, .int (0 : Int32)), (0, .ref (ad 2)), (1, .int a1)]) hx hb dX7_numberFor_3 rfl hl (by decide) rfl (fun ls hl => ?_)
  exact L4  _ _ _ _ _ _ _ _ hf B (lv_sub hl [2, 3, 1, 0] rfl)
theorem dX7_useChain_0 : decode cX7_useChain 0 = .ok (.iconst 0, 1) := by decide +kernel
theorem dX7_useChain_1 : decode cX7_useChain 1 = .ok (.istore_n 2, 1) := by decide +kernel
theorem dX7_useChain_2 : decode cX7_useChain 2 = .ok (.iload_n 2, 1) := by decide +kernel
theorem dX7_useChain_3 : decode cX7_useChain 3 = .ok (.aload_n 0, 1) := by decide +kernel
theorem dX7_useChain_4 : decode cX7_useChain 4 = .ok (.getfield 15, 3) := by decide +kernel
theorem dX7_useChain_7 : decode cX7_useChain 7 = .ok (.iload_n 1, 1) := by decide +kernel
theorem dX7_useChain_8 : decode cX7_useChain 8 = .ok (.iaload, 1) := by decide +kernel
theorem dX7_useChain_9 : decode cX7_useChain 9 = .ok (.if_icmp .ge 29, 3) := by decide +kernel
theorem dX7_useChain_12 : decode cX7_useChain 12 = .ok (.aload_n 0, 1) := by decide +kernel
theorem dX7_useChain_13 : decode cX7_useChain 13 = .ok (.getfield 24, 3) := by decide +kernel
theorem dX7_useChain_16 : decode cX7_useChain 16 = .ok (.aload_n 0, 1) := by decide +kernel
theorem dX7_useChain_17 : decode cX7_useChain 17 = .ok (.getfield 18, 3) := by decide +kernel
theorem dX7_useChain_20 : decode cX7_useChain 20 = .ok (.iload_n 1, 1) := by decide +kernel
theorem dX7_useChain_21 : decode cX7_useChain 21 = .ok (.bipush 7, 2) := by decide +kernel
theorem dX7_useChain_23 : decode cX7_useChain 23 = .ok (.imul, 1) := by decide +kernel
theorem dX7_useChain_24 : decode cX7_useChain 24 = .ok (.iload_n 2, 1) := by decide +kernel
theorem dX7_useChain_25 : decode cX7_useChain 25 = .ok (.iadd, 1) := by decide +kernel
theorem dX7_useChain_26 : decode cX7_useChain 26 = .ok (.iaload, 1) := by decide +kernel
theorem dX7_useChain_27 : decode cX7_useChain 27 = .ok (.dup2, 1) := by decide +kernel
theorem dX7_useChain_28 : decode cX7_useChain 28 = .ok (.iaload, 1) := by decide +kernel
theorem dX7_useChain_29 : decode cX7_useChain 29 = .ok (.iconst 1, 1) := by decide +kernel
theorem dX7_useChain_30 : decode cX7_useChain 30 = .ok (.iadd, 1) := by decide +kernel
theorem dX7_useChain_31 : decode cX7_useChain 31 = .ok (.iastore, 1) := by decide +kernel
theorem dX7_useChain_32 : decode cX7_useChain 32 = .ok (.iinc 2 1, 3) := by decide +kernel
theorem dX7_useChain_35 : decode cX7_useChain 35 = .ok (.goto (-33), 3) := by decide +kernel
theorem dX7_useChain_38 : decode cX7_useChain 38 = .ok (.return_, 1) := by decide +kernel
def rm_X7_useChain : Room := { frames := 1, cells := 0, slots := 0, locals := 16 }
set_option maxHeartbeats 4000000 in
set_option maxRecDepth 100000 in
theorem c_X7_useChain (l : Launch) {nb : Nat} {G : zG} {ad : Nat → Nat} {σ σ' : zs} {a1 : Int32} {r : Int32} (hf : f_X7_useChain σ a1 = some (r, σ')) : zMv l yX7_useChain wsX7_useChain rm_X7_useChain G (zS nb) ad σ [.ref (ad 2), .int a1] σ' := by
  intro sz
  refine Met.ofW (cc := cX7_useChain) (maxL := 3) (ret := none) (by decide) rfl ?_
  intro p e s m args below meth c s₁ B hml hv
  obtain ⟨rfl, hsz, hv⟩ := hv
  have hx := B.exec
  have hb := B.bytes
  have hr := B.returns
  have hts := atoms_spec (ws := wsX7_useChain) B.pre
  have hown : s.vm.findClass RX7 = some m.cls := findClass_of_methodNamed B.named
  have hlocks := B.notSynchronized
  subst hsz
  have B := zB_start hv
  have hinRX7 : ∀ w ∈ wsX70, w ∈ wsX7_useChain := by decide +kernel
  have hl := lv_entry ([.ref (ad 2), .int a1]) (n := 3) (Nat.le_of_ble_eq_true rfl)
  rw [lg_entry_eq]
  generalize (lg_sl ([.ref (ad 2), .int a1]) ++ List.replicate (3 - (lg_sl ([.ref (ad 2), .int a1])).length) Slot.unset).toArray = ls at hl ⊢
  have hl : lv_has ls 3 [(0, .ref (ad 2)), (1, .int a1)] := hl
  generalize hAe : zA ad (zS nb).length s.heap.size = A at B ⊢
  have L2 : ∀ (n : Nat) (σ : zs) (v1 : Int32) (v2 : Int32) (H : Heap) (locs : List Loc) (ls : Array Slot), zlp2 (f_X7_useChain_2) n σ v1 v2 = some (r, σ') → zB A s G (zS nb) ad σ H locs → lv_has ls 3 [(0, .ref (ad 2)), (1, .int v1), (2, .int v2)] → W p l e (headSpec wsX7_useChain rm_X7_useChain).room s m ([.ref (ad 2), .int a1] : List Value).toArray below meth c H locs 0 0 (MQ below (va_Qv (fun (_ : Unit) => True) (zPost G (zS nb) ad σ') A) ([.ref (ad 2), .int a1] : List Value).toArray s 0 0 A) (F0 m 2 ls []) := by
    intro n
    induction n with
    | zero =>
      intro σ v1 v2 H locs ls hf
      cases hf
    | succ n ih =>
      intro σ v1 v2 H locs ls hf B hl
      have hf : f_X7_useChain_2 (zlp2 (f_X7_useChain_2) n) σ v1 v2 = some (r, σ') := hf
      unfold f_X7_useChain_2 at hf
      refine lv_iload_n hx hb dX7_useChain_2 rfl (lv_at hl 2 rfl) ?_
      refine lv_aload_n hx hb dX7_useChain_3 rfl (lv_at hl 0 rfl) ?_
      refine z_getr hx hb hts hinRX7 hown B 2 2 4 rfl rfl rfl (by decide) (by decide +kernel) rfl dX7_useChain_4 ?_
      refine lv_iload_n hx hb dX7_useChain_7 rfl (lv_at hl 1 rfl) ?_
      obtain ⟨hg, hf⟩ := zg_some hf
      refine z_iald hx hb B 4 rfl (zin_ok hg) dX7_useChain_8 ?_
      refine lv_icmp_ge (tgt := 38) hx hb dX7_useChain_9 (by decide) (fun hc => ?_) (fun hc => ?_)
      · have hf := zif_t hc hf
        refine W.widen (k := 0) (n := 0) (Nat.le_of_ble_eq_true rfl) (Nat.le_of_ble_eq_true rfl) ?_
        exact z_vret hx hb hr hlocks B hf dX7_useChain_38
      · have hf := zif_f hc hf
        refine lv_aload_n hx hb dX7_useChain_12 rfl (lv_at hl 0 rfl) ?_
        refine z_getr hx hb hts hinRX7 hown B 2 5 7 rfl rfl rfl (by decide) (by decide +kernel) rfl dX7_useChain_13 ?_
        refine lv_aload_n hx hb dX7_useChain_16 rfl (lv_at hl 0 rfl) ?_
        refine z_getr hx hb hts hinRX7 hown B 2 3 5 rfl rfl rfl (by decide) (by decide +kernel) rfl dX7_useChain_17 ?_
        refine lv_iload_n hx hb dX7_useChain_20 rfl (lv_at hl 1 rfl) ?_
        refine lv_bipush (v := (7 : Int32)) hx hb dX7_useChain_21 (by decide) ?_
        refine lv_imul hx hb dX7_useChain_23 ?_
        refine lv_iload_n hx hb dX7_useChain_24 rfl (lv_at hl 2 rfl) ?_
        refine lv_iadd hx hb dX7_useChain_25 ?_
        obtain ⟨hg, hf⟩ := zg_some hf
        refine z_iald hx hb B 5 rfl (zin_ok hg) dX7_useChain_26 ?_
        refine lv_dup2_11 hx hb dX7_useChain_27 rfl rfl ?_
        obtain ⟨hg, hf⟩ := zg_some hf
        refine z_iald hx hb B 7 rfl (zin_ok hg) dX7_useChain_28 ?_
        refine lv_iconst (v := (1 : Int32)) hx hb dX7_useChain_29 (by decide) ?_
        refine lv_iadd hx hb dX7_useChain_30 ?_
        obtain ⟨hg, hf⟩ := zg_some hf
        refine z_iast hx hb B 7 rfl (zin_ok hg) dX7_useChain_31 (fun H locs B => ?_)
        refine lv_iinc (v := (v2 + (1 : Int32))) (lv' := [(2, .int (v2 + (1 : Int32))), (0, .ref (ad 2)), (1, .int v1)]) hx hb dX7_useChain_32 hl (k := 2) rfl (zc1 (by decide)) (by decide) rfl (fun ls hl => ?_)
        refine lv_goto (tgt := 2) hx hb dX7_useChain_35 (by decide) ?_
        exact ih _ _ _ _ _ _ hf B (lv_sub hl [1, 2, 0] rfl)
  unfold f_X7_useChain at hf
  refine lv_iconst (v := (0 : Int32)) hx hb dX7_useChain_0 (by decide) ?_
  refine lv_istore_n (lv' := [(2, .int (0 : Int32)), (0, .ref (ad 2)), (1, .int a1)]) hx hb dX7_useChain_1 rfl hl (by decide) rfl (fun ls hl => ?_)
  exact L2  _ _ _ _ _ _ _ hf B (lv_sub hl [1, 2, 0] rfl)
theorem dX7_comesBefore_0 : decode cX7_comesBefore 0 = .ok (.aload_n 0, 1) := by decide +kernel
theorem dX7_comesBefore_1 : decode cX7_comesBefore 1 = .ok (.getfield 9, 3) := by decide +kernel
theorem dX7_comesBefore_4 : decode cX7_comesBefore 4 = .ok (.iload_n 1, 1) := by decide +kernel
theorem dX7_comesBefore_5 : decode cX7_comesBefore 5 = .ok (.iaload, 1) := by decide +kernel
theorem dX7_comesBefore_6 : decode cX7_comesBefore 6 = .ok (.aload_n 0, 1) := by decide +kernel
theorem dX7_comesBefore_7 : decode cX7_comesBefore 7 = .ok (.getfield 9, 3) := by decide +kernel
theorem dX7_comesBefore_10 : decode cX7_comesBefore 10 = .ok (.iload_n 2, 1) := by decide +kernel
theorem dX7_comesBefore_11 : decode cX7_comesBefore 11 = .ok (.iaload, 1) := by decide +kernel
theorem dX7_comesBefore_12 : decode cX7_comesBefore 12 = .ok (.if_icmp .eq 24, 3) := by decide +kernel
theorem dX7_comesBefore_15 : decode cX7_comesBefore 15 = .ok (.aload_n 0, 1) := by decide +kernel
theorem dX7_comesBefore_16 : decode cX7_comesBefore 16 = .ok (.getfield 9, 3) := by decide +kernel
theorem dX7_comesBefore_19 : decode cX7_comesBefore 19 = .ok (.iload_n 1, 1) := by decide +kernel
theorem dX7_comesBefore_20 : decode cX7_comesBefore 20 = .ok (.iaload, 1) := by decide +kernel
theorem dX7_comesBefore_21 : decode cX7_comesBefore 21 = .ok (.aload_n 0, 1) := by decide +kernel
theorem dX7_comesBefore_22 : decode cX7_comesBefore 22 = .ok (.getfield 9, 3) := by decide +kernel
theorem dX7_comesBefore_25 : decode cX7_comesBefore 25 = .ok (.iload_n 2, 1) := by decide +kernel
theorem dX7_comesBefore_26 : decode cX7_comesBefore 26 = .ok (.iaload, 1) := by decide +kernel
theorem dX7_comesBefore_27 : decode cX7_comesBefore 27 = .ok (.if_icmp .ge 7, 3) := by decide +kernel
theorem dX7_comesBefore_30 : decode cX7_comesBefore 30 = .ok (.iconst 1, 1) := by decide +kernel
theorem dX7_comesBefore_31 : decode cX7_comesBefore 31 = .ok (.goto 4, 3) := by decide +kernel
theorem dX7_comesBefore_34 : decode cX7_comesBefore 34 = .ok (.iconst 0, 1) := by decide +kernel
theorem dX7_comesBefore_35 : decode cX7_comesBefore 35 = .ok (.ireturn, 1) := by decide +kernel
theorem dX7_comesBefore_36 : decode cX7_comesBefore 36 = .ok (.aload_n 0, 1) := by decide +kernel
theorem dX7_comesBefore_37 : decode cX7_comesBefore 37 = .ok (.getfield 15, 3) := by decide +kernel
theorem dX7_comesBefore_40 : decode cX7_comesBefore 40 = .ok (.iload_n 1, 1) := by decide +kernel
theorem dX7_comesBefore_41 : decode cX7_comesBefore 41 = .ok (.iaload, 1) := by decide +kernel
theorem dX7_comesBefore_42 : decode cX7_comesBefore 42 = .ok (.aload_n 0, 1) := by decide +kernel
theorem dX7_comesBefore_43 : decode cX7_comesBefore 43 = .ok (.getfield 15, 3) := by decide +kernel
theorem dX7_comesBefore_46 : decode cX7_comesBefore 46 = .ok (.iload_n 2, 1) := by decide +kernel
theorem dX7_comesBefore_47 : decode cX7_comesBefore 47 = .ok (.iaload, 1) := by decide +kernel
theorem dX7_comesBefore_48 : decode cX7_comesBefore 48 = .ok (.if_icmp .eq 24, 3) := by decide +kernel
theorem dX7_comesBefore_51 : decode cX7_comesBefore 51 = .ok (.aload_n 0, 1) := by decide +kernel
theorem dX7_comesBefore_52 : decode cX7_comesBefore 52 = .ok (.getfield 15, 3) := by decide +kernel
theorem dX7_comesBefore_55 : decode cX7_comesBefore 55 = .ok (.iload_n 1, 1) := by decide +kernel
theorem dX7_comesBefore_56 : decode cX7_comesBefore 56 = .ok (.iaload, 1) := by decide +kernel
theorem dX7_comesBefore_57 : decode cX7_comesBefore 57 = .ok (.aload_n 0, 1) := by decide +kernel
theorem dX7_comesBefore_58 : decode cX7_comesBefore 58 = .ok (.getfield 15, 3) := by decide +kernel
theorem dX7_comesBefore_61 : decode cX7_comesBefore 61 = .ok (.iload_n 2, 1) := by decide +kernel
theorem dX7_comesBefore_62 : decode cX7_comesBefore 62 = .ok (.iaload, 1) := by decide +kernel
theorem dX7_comesBefore_63 : decode cX7_comesBefore 63 = .ok (.if_icmp .le 7, 3) := by decide +kernel
theorem dX7_comesBefore_66 : decode cX7_comesBefore 66 = .ok (.iconst 1, 1) := by decide +kernel
theorem dX7_comesBefore_67 : decode cX7_comesBefore 67 = .ok (.goto 4, 3) := by decide +kernel
theorem dX7_comesBefore_70 : decode cX7_comesBefore 70 = .ok (.iconst 0, 1) := by decide +kernel
theorem dX7_comesBefore_71 : decode cX7_comesBefore 71 = .ok (.ireturn, 1) := by decide +kernel
theorem dX7_comesBefore_72 : decode cX7_comesBefore 72 = .ok (.iload_n 1, 1) := by decide +kernel
theorem dX7_comesBefore_73 : decode cX7_comesBefore 73 = .ok (.iload_n 2, 1) := by decide +kernel
theorem dX7_comesBefore_74 : decode cX7_comesBefore 74 = .ok (.if_icmp .ge 7, 3) := by decide +kernel
theorem dX7_comesBefore_77 : decode cX7_comesBefore 77 = .ok (.iconst 1, 1) := by decide +kernel
theorem dX7_comesBefore_78 : decode cX7_comesBefore 78 = .ok (.goto 4, 3) := by decide +kernel
theorem dX7_comesBefore_81 : decode cX7_comesBefore 81 = .ok (.iconst 0, 1) := by decide +kernel
theorem dX7_comesBefore_82 : decode cX7_comesBefore 82 = .ok (.ireturn, 1) := by decide +kernel
def rm_X7_comesBefore : Room := { frames := 1, cells := 0, slots := 0, locals := 16 }
set_option maxHeartbeats 4000000 in
set_option maxRecDepth 100000 in
theorem c_X7_comesBefore (l : Launch) {nb : Nat} {G : zG} {ad : Nat → Nat} {σ σ' : zs} {a1 a2 : Int32} {r : Int32} (hf : f_X7_comesBefore σ a1 a2 = some (r, σ')) : zMi l yX7_comesBefore wsX7_comesBefore rm_X7_comesBefore G (zS nb) ad σ [.ref (ad 2), .int a1, .int a2] r σ' := by
  intro sz
  refine Met.ofW (cc := cX7_comesBefore) (maxL := 3) (ret := (some .boolean)) (by decide) rfl ?_
  intro p e s m args below meth c s₁ B hml hv
  obtain ⟨rfl, hsz, hv⟩ := hv
  have hx := B.exec
  have hb := B.bytes
  have hr := B.returns
  have hts := atoms_spec (ws := wsX7_comesBefore) B.pre
  have hown : s.vm.findClass RX7 = some m.cls := findClass_of_methodNamed B.named
  have hlocks := B.notSynchronized
  subst hsz
  have B := zB_start hv
  have hinRX7 : ∀ w ∈ wsX70, w ∈ wsX7_comesBefore := by decide +kernel
  have hl := lv_entry ([.ref (ad 2), .int a1, .int a2]) (n := 3) (Nat.le_of_ble_eq_true rfl)
  rw [lg_entry_eq]
  generalize (lg_sl ([.ref (ad 2), .int a1, .int a2]) ++ List.replicate (3 - (lg_sl ([.ref (ad 2), .int a1, .int a2])).length) Slot.unset).toArray = ls at hl ⊢
  have hl : lv_has ls 3 [(0, .ref (ad 2)), (1, .int a1), (2, .int a2)] := hl
  generalize hAe : zA ad (zS nb).length s.heap.size = A at B ⊢
  unfold f_X7_comesBefore at hf
  refine lv_aload_n hx hb dX7_comesBefore_0 rfl (lv_at hl 0 rfl) ?_
  refine z_getr hx hb hts hinRX7 hown B 2 1 3 rfl rfl rfl (by decide) (by decide +kernel) rfl dX7_comesBefore_1 ?_
  refine lv_iload_n hx hb dX7_comesBefore_4 rfl (lv_at hl 1 rfl) ?_
  obtain ⟨hg, hf⟩ := zg_some hf
  refine z_iald hx hb B 3 rfl (zin_ok hg) dX7_comesBefore_5 ?_
  refine lv_aload_n hx hb dX7_comesBefore_6 rfl (lv_at hl 0 rfl) ?_
  refine z_getr hx hb hts hinRX7 hown B 2 1 3 rfl rfl rfl (by decide) (by decide +kernel) rfl dX7_comesBefore_7 ?_
  refine lv_iload_n hx hb dX7_comesBefore_10 rfl (lv_at hl 2 rfl) ?_
  obtain ⟨hg, hf⟩ := zg_some hf
  refine z_iald hx hb B 3 rfl (zin_ok hg) dX7_comesBefore_11 ?_
  refine lv_icmp_eq (tgt := 36) hx hb dX7_comesBefore_12 (by decide) (fun hc => ?_) (fun hc => ?_)
  · have hf := zif_t hc hf
    refine lv_aload_n hx hb dX7_comesBefore_36 rfl (lv_at hl 0 rfl) ?_
    refine z_getr hx hb hts hinRX7 hown B 2 2 4 rfl rfl rfl (by decide) (by decide +kernel) rfl dX7_comesBefore_37 ?_
    refine lv_iload_n hx hb dX7_comesBefore_40 rfl (lv_at hl 1 rfl) ?_
    obtain ⟨hg, hf⟩ := zg_some hf
    refine z_iald hx hb B 4 rfl (zin_ok hg) dX7_comesBefore_41 ?_
    refine lv_aload_n hx hb dX7_comesBefore_42 rfl (lv_at hl 0 rfl) ?_
    refine z_getr hx hb hts hinRX7 hown B 2 2 4 rfl rfl rfl (by decide) (by decide +kernel) rfl dX7_comesBefore_43 ?_
    refine lv_iload_n hx hb dX7_comesBefore_46 rfl (lv_at hl 2 rfl) ?_
    obtain ⟨hg, hf⟩ := zg_some hf
    refine z_iald hx hb B 4 rfl (zin_ok hg) dX7_comesBefore_47 ?_
    refine lv_icmp_eq (tgt := 72) hx hb dX7_comesBefore_48 (by decide) (fun hc => ?_) (fun hc => ?_)
    · have hf := zif_t hc hf
      refine lv_iload_n hx hb dX7_comesBefore_72 rfl (lv_at hl 1 rfl) ?_
      refine lv_iload_n hx hb dX7_comesBefore_73 rfl (lv_at hl 2 rfl) ?_
      refine lv_icmp_ge (tgt := 81) hx hb dX7_comesBefore_74 (by decide) (fun hc => ?_) (fun hc => ?_)
      · have hf := zif_t hc hf
        refine lv_iconst (v := (0 : Int32)) hx hb dX7_comesBefore_81 (by decide) ?_
        refine W.widen (k := 0) (n := 0) (Nat.le_of_ble_eq_true rfl) (Nat.le_of_ble_eq_true rfl) ?_
        exact z_iret hx hb hr (by decide) hlocks B hf dX7_comesBefore_82
      · have hf := zif_f hc hf
        refine lv_iconst (v := (1 : Int32)) hx hb dX7_comesBefore_77 (by decide) ?_
        refine lv_goto (tgt := 82) hx hb dX7_comesBefore_78 (by decide) ?_
        refine W.widen (k := 0) (n := 0) (Nat.le_of_ble_eq_true rfl) (Nat.le_of_ble_eq_true rfl) ?_
        exact z_iret hx hb hr (by decide) hlocks B hf dX7_comesBefore_82
    · have hf := zif_f hc hf
      refine lv_aload_n hx hb dX7_comesBefore_51 rfl (lv_at hl 0 rfl) ?_
      refine z_getr hx hb hts hinRX7 hown B 2 2 4 rfl rfl rfl (by decide) (by decide +kernel) rfl dX7_comesBefore_52 ?_
      refine lv_iload_n hx hb dX7_comesBefore_55 rfl (lv_at hl 1 rfl) ?_
      obtain ⟨hg, hf⟩ := zg_some hf
      refine z_iald hx hb B 4 rfl (zin_ok hg) dX7_comesBefore_56 ?_
      refine lv_aload_n hx hb dX7_comesBefore_57 rfl (lv_at hl 0 rfl) ?_
      refine z_getr hx hb hts hinRX7 hown B 2 2 4 rfl rfl rfl (by decide) (by decide +kernel) rfl dX7_comesBefore_58 ?_
      refine lv_iload_n hx hb dX7_comesBefore_61 rfl (lv_at hl 2 rfl) ?_
      obtain ⟨hg, hf⟩ := zg_some hf
      refine z_iald hx hb B 4 rfl (zin_ok hg) dX7_comesBefore_62 ?_
      refine lv_icmp_le (tgt := 70) hx hb dX7_comesBefore_63 (by decide) (fun hc => ?_) (fun hc => ?_)
      · have hf := zif_t hc hf
        refine lv_iconst (v := (0 : Int32)) hx hb dX7_comesBefore_70 (by decide) ?_
        refine W.widen (k := 0) (n := 0) (Nat.le_of_ble_eq_true rfl) (Nat.le_of_ble_eq_true rfl) ?_
        exact z_iret hx hb hr (by decide) hlocks B hf dX7_comesBefore_71
      · have hf := zif_f hc hf
        refine lv_iconst (v := (1 : Int32)) hx hb dX7_comesBefore_66 (by decide) ?_
        refine lv_goto (tgt := 71) hx hb dX7_comesBefore_67 (by decide) ?_
        refine W.widen (k := 0) (n := 0) (Nat.le_of_ble_eq_true rfl) (Nat.le_of_ble_eq_true rfl) ?_
        exact z_iret hx hb hr (by decide) hlocks B hf dX7_comesBefore_71
  · have hf := zif_f hc hf
    refine lv_aload_n hx hb dX7_comesBefore_15 rfl (lv_at hl 0 rfl) ?_
    refine z_getr hx hb hts hinRX7 hown B 2 1 3 rfl rfl rfl (by decide) (by decide +kernel) rfl dX7_comesBefore_16 ?_
    refine lv_iload_n hx hb dX7_comesBefore_19 rfl (lv_at hl 1 rfl) ?_
    obtain ⟨hg, hf⟩ := zg_some hf
    refine z_iald hx hb B 3 rfl (zin_ok hg) dX7_comesBefore_20 ?_
    refine lv_aload_n hx hb dX7_comesBefore_21 rfl (lv_at hl 0 rfl) ?_
    refine z_getr hx hb hts hinRX7 hown B 2 1 3 rfl rfl rfl (by decide) (by decide +kernel) rfl dX7_comesBefore_22 ?_
    refine lv_iload_n hx hb dX7_comesBefore_25 rfl (lv_at hl 2 rfl) ?_
    obtain ⟨hg, hf⟩ := zg_some hf
    refine z_iald hx hb B 3 rfl (zin_ok hg) dX7_comesBefore_26 ?_
    refine lv_icmp_ge (tgt := 34) hx hb dX7_comesBefore_27 (by decide) (fun hc => ?_) (fun hc => ?_)
    · have hf := zif_t hc hf
      refine lv_iconst (v := (0 : Int32)) hx hb dX7_comesBefore_34 (by decide) ?_
      refine W.widen (k := 0) (n := 0) (Nat.le_of_ble_eq_true rfl) (Nat.le_of_ble_eq_true rfl) ?_
      exact z_iret hx hb hr (by decide) hlocks B hf dX7_comesBefore_35
    · have hf := zif_f hc hf
      refine lv_iconst (v := (1 : Int32)) hx hb dX7_comesBefore_30 (by decide) ?_
      refine lv_goto (tgt := 35) hx hb dX7_comesBefore_31 (by decide) ?_
      refine W.widen (k := 0) (n := 0) (Nat.le_of_ble_eq_true rfl) (Nat.le_of_ble_eq_true rfl) ?_
      exact z_iret hx hb hr (by decide) hlocks B hf dX7_comesBefore_35
theorem dX7_numberBefore_0 : decode cX7_numberBefore 0 = .ok (.iconst 0, 1) := by decide +kernel
theorem dX7_numberBefore_1 : decode cX7_numberBefore 1 = .ok (.istore_n 2, 1) := by decide +kernel
theorem dX7_numberBefore_2 : decode cX7_numberBefore 2 = .ok (.iconst 0, 1) := by decide +kernel
theorem dX7_numberBefore_3 : decode cX7_numberBefore 3 = .ok (.istore_n 3, 1) := by decide +kernel
theorem dX7_numberBefore_4 : decode cX7_numberBefore 4 = .ok (.iload_n 3, 1) := by decide +kernel
theorem dX7_numberBefore_5 : decode cX7_numberBefore 5 = .ok (.aload_n 0, 1) := by decide +kernel
theorem dX7_numberBefore_6 : decode cX7_numberBefore 6 = .ok (.getfield 49, 3) := by decide +kernel
theorem dX7_numberBefore_9 : decode cX7_numberBefore 9 = .ok (.if_icmp .ge 21, 3) := by decide +kernel
theorem dX7_numberBefore_12 : decode cX7_numberBefore 12 = .ok (.aload_n 0, 1) := by decide +kernel
theorem dX7_numberBefore_13 : decode cX7_numberBefore 13 = .ok (.iload_n 3, 1) := by decide +kernel
theorem dX7_numberBefore_14 : decode cX7_numberBefore 14 = .ok (.iload_n 1, 1) := by decide +kernel
theorem dX7_numberBefore_15 : decode cX7_numberBefore 15 = .ok (.invokevirtual 85, 3) := by decide +kernel
theorem dX7_numberBefore_18 : decode cX7_numberBefore 18 = .ok (.ifCond .eq 6, 3) := by decide +kernel
theorem dX7_numberBefore_21 : decode cX7_numberBefore 21 = .ok (.iinc 2 1, 3) := by decide +kernel
theorem dX7_numberBefore_24 : decode cX7_numberBefore 24 = .ok (.iinc 3 1, 3) := by decide +kernel
theorem dX7_numberBefore_27 : decode cX7_numberBefore 27 = .ok (.goto (-23), 3) := by decide +kernel
theorem dX7_numberBefore_30 : decode cX7_numberBefore 30 = .ok (.iload_n 2, 1) := by decide +kernel
theorem dX7_numberBefore_31 : decode cX7_numberBefore 31 = .ok (.ireturn, 1) := by decide +kernel
set_option maxRecDepth 20000 in
theorem ggX7_numberBefore_X7_comesBefore : GoodIn wsX7_numberBefore wsX7_comesBefore := goodIn_ca (goodIn_r _ [6, 7, 8, 9, 10, 11, 12, 13, 14, 15, 16, 17, 18, 19, 20] (by decide +kernel) (by decide +kernel)) (goodIn_sub (fun _ h => List.mem_cons_of_mem _ (List.mem_append_right _ h)) (by decide +kernel))
set_option maxRecDepth 20000 in
theorem gX7_numberBefore_X7_comesBefore : GoodIn wsX7_numberBefore (wsV RX7 85 RX7 yX7_comesBefore wsX7_comesBefore) := goodIn_app (goodIn_of _ (by decide +kernel)) ggX7_numberBefore_X7_comesBefore
def rm_X7_numberBefore : Room := { frames := 2, cells := 0, slots := 0, locals := 38 }
set_option maxHeartbeats 4000000 in
set_option maxRecDepth 100000 in
theorem c_X7_numberBefore (l : Launch) {nb : Nat} {G : zG} {ad : Nat → Nat} {σ σ' : zs} {a1 : Int32} {r : Int32} (hf : f_X7_numberBefore σ a1 = some (r, σ')) : zMi l yX7_numberBefore wsX7_numberBefore rm_X7_numberBefore G (zS nb) ad σ [.ref (ad 2), .int a1] r σ' := by
  intro sz
  refine Met.ofW (cc := cX7_numberBefore) (maxL := 4) (ret := (some .int)) (by decide) rfl ?_
  intro p e s m args below meth c s₁ B hml hv
  obtain ⟨rfl, hsz, hv⟩ := hv
  have hx := B.exec
  have hb := B.bytes
  have hr := B.returns
  have hts := atoms_spec (ws := wsX7_numberBefore) B.pre
  have hown : s.vm.findClass RX7 = some m.cls := findClass_of_methodNamed B.named
  have hlocks := B.notSynchronized
  subst hsz
  have B := zB_start hv
  have hinRX7 : ∀ w ∈ wsX70, w ∈ wsX7_numberBefore := by decide +kernel
  have hl := lv_entry ([.ref (ad 2), .int a1]) (n := 4) (Nat.le_of_ble_eq_true rfl)
  rw [lg_entry_eq]
  generalize (lg_sl ([.ref (ad 2), .int a1]) ++ List.replicate (4 - (lg_sl ([.ref (ad 2), .int a1])).length) Slot.unset).toArray = ls at hl ⊢
  have hl : lv_has ls 4 [(0, .ref (ad 2)), (1, .int a1)] := hl
  generalize hAe : zA ad (zS nb).length s.heap.size = A at B ⊢
  have L4 : ∀ (n : Nat) (σ : zs) (v1 : Int32) (v2 : Int32) (v3 : Int32) (H : Heap) (locs : List Loc) (ls : Array Slot), zlp3 (f_X7_numberBefore_4) n σ v1 v2 v3 = some (r, σ') → zB A s G (zS nb) ad σ H locs → lv_has ls 4 [(0, .ref (ad 2)), (1, .int v1), (2, .int v2), (3, .int v3)] → W p l e (headSpec wsX7_numberBefore rm_X7_numberBefore).room s m ([.ref (ad 2), .int a1] : List Value).toArray below meth c H locs 0 0 (MQ below (va_Qi (fun r' (_ : Unit) => r' = r) (zPost G (zS nb) ad σ') A) ([.ref (ad 2), .int a1] : List Value).toArray s 0 0 A) (F0 m 4 ls []) := by
    intro n
    induction n with
    | zero =>
      intro σ v1 v2 v3 H locs ls hf
      cases hf
    | succ n ih =>
      intro σ v1 v2 v3 H locs ls hf B hl
      have hf : f_X7_numberBefore_4 (zlp3 (f_X7_numberBefore_4) n) σ v1 v2 v3 = some (r, σ') := hf
      unfold f_X7_numberBefore_4 at hf
      refine lv_iload_n hx hb dX7_numberBefore_4 rfl (lv_at hl 3 rfl) ?_
      refine lv_aload_n hx hb dX7_numberBefore_5 rfl (lv_at hl 0 rfl) ?_
      refine z_geti hx hb hts hinRX7 hown B 2 0 rfl rfl rfl (by decide) (by decide +kernel) rfl dX7_numberBefore_6 ?_
      refine lv_icmp_ge (tgt := 30) hx hb dX7_numberBefore_9 (by decide) (fun hc => ?_) (fun hc => ?_)
      · have hf := zif_t hc hf
        refine lv_iload_n hx hb dX7_numberBefore_30 rfl (lv_at hl 2 rfl) ?_
        refine W.widen (k := 0) (n := 0) (Nat.le_of_ble_eq_true rfl) (Nat.le_of_ble_eq_true rfl) ?_
        exact z_iret hx hb hr rfl hlocks B hf dX7_numberBefore_31
      · have hf := zif_f hc hf
        refine lv_aload_n hx hb dX7_numberBefore_12 rfl (lv_at hl 0 rfl) ?_
        refine lv_iload_n hx hb dX7_numberBefore_13 rfl (lv_at hl 3 rfl) ?_
        refine lv_iload_n hx hb dX7_numberBefore_14 rfl (lv_at hl 1 rfl) ?_
        obtain ⟨r2, σ3, hu1, hf⟩ := zb_some hf
        refine z_i B (va_runV (As := [.int v3, .int v1]) (rest := []) ⟨hx, hb, hml, hown, hts⟩ (c_X7_comesBefore l hu1 _) (cwV 2 hts gX7_numberBefore_X7_comesBefore rfl rfl rfl (by decide +kernel) ⟨Nat.le_of_ble_eq_true rfl, Nat.le_of_ble_eq_true rfl⟩) (z_preV B rfl rfl) rfl rfl hl.1 rfl (lv_room (Nat.le_of_ble_eq_true rfl)) dX7_numberBefore_15 ⟨Nat.le_of_ble_eq_true rfl, Nat.le_of_ble_eq_true rfl⟩) (fun H locs B => ?_)
        refine lv_if_eq (tgt := 24) hx hb dX7_numberBefore_18 (by decide) (fun hc => ?_) (fun hc => ?_)
        · have hf := zif_t hc hf
          refine lv_iinc (v := (v3 + (1 : Int32))) (lv' := [(3, .int (v3 + (1 : Int32))), (0, .ref (ad 2)), (1, .int v1), (2, .int v2)]) hx hb dX7_numberBefore_24 hl (k := 3) rfl (zc1 (by decide)) (by decide) rfl (fun ls hl => ?_)
          refine lv_goto (tgt := 4) hx hb dX7_numberBefore_27 (by decide) ?_
          exact ih _ _ _ _ _ _ _ hf B (lv_sub hl [1, 2, 3, 0] rfl)
        · have hf := zif_f hc hf
          refine lv_iinc (v := (v2 + (1 : Int32))) (lv' := [(2, .int (v2 + (1 : Int32))), (0, .ref (ad 2)), (1, .int v1), (3, .int v3)]) hx hb dX7_numberBefore_21 hl (k := 2) rfl (zc1 (by decide)) (by decide) rfl (fun ls hl => ?_)
          refine lv_iinc (v := (v3 + (1 : Int32))) (lv' := [(3, .int (v3 + (1 : Int32))), (2, .int (v2 + (1 : Int32))), (0, .ref (ad 2)), (1, .int v1)]) hx hb dX7_numberBefore_24 hl (k := 3) rfl (zc1 (by decide)) (by decide) rfl (fun ls hl => ?_)
          refine lv_goto (tgt := 4) hx hb dX7_numberBefore_27 (by decide) ?_
          exact ih _ _ _ _ _ _ _ hf B (lv_sub hl [2, 3, 1, 0] rfl)
  unfold f_X7_numberBefore at hf
  refine lv_iconst (v := (0 : Int32)) hx hb dX7_numberBefore_0 (by decide) ?_
  refine lv_istore_n (lv' := [(2, .int (0 : Int32)), (0, .ref (ad 2)), (1, .int a1)]) hx hb dX7_numberBefore_1 rfl hl (by decide) rfl (fun ls hl => ?_)
  refine lv_iconst (v := (0 : Int32)) hx hb dX7_numberBefore_2 (by decide) ?_
  refine lv_istore_n (lv' := [(3, .int (0 : Int32)), (2, .int (0 : Int32)), (0, .ref (ad 2)), (1, .int a1)]) hx hb dX7_numberBefore_3 rfl hl (by decide) rfl (fun ls hl => ?_)
  exact L4  _ _ _ _ _ _ _ _ hf B (lv_sub hl [2, 3, 1, 0] rfl)
theorem dX7_withRank_0 : decode cX7_withRank 0 = .ok (.iconst 0, 1) := by decide +kernel
theorem dX7_withRank_1 : decode cX7_withRank 1 = .ok (.istore_n 2, 1) := by decide +kernel
theorem dX7_withRank_2 : decode cX7_withRank 2 = .ok (.iload_n 2, 1) := by decide +kernel
theorem dX7_withRank_3 : decode cX7_withRank 3 = .ok (.aload_n 0, 1) := by decide +kernel
theorem dX7_withRank_4 : decode cX7_withRank 4 = .ok (.getfield 49, 3) := by decide +kernel
theorem dX7_withRank_7 : decode cX7_withRank 7 = .ok (.if_icmp .ge 20, 3) := by decide +kernel
theorem dX7_withRank_10 : decode cX7_withRank 10 = .ok (.aload_n 0, 1) := by decide +kernel
theorem dX7_withRank_11 : decode cX7_withRank 11 = .ok (.iload_n 2, 1) := by decide +kernel
theorem dX7_withRank_12 : decode cX7_withRank 12 = .ok (.invokevirtual 82, 3) := by decide +kernel
theorem dX7_withRank_15 : decode cX7_withRank 15 = .ok (.iload_n 1, 1) := by decide +kernel
theorem dX7_withRank_16 : decode cX7_withRank 16 = .ok (.if_icmp .ne 5, 3) := by decide +kernel
theorem dX7_withRank_19 : decode cX7_withRank 19 = .ok (.iload_n 2, 1) := by decide +kernel
theorem dX7_withRank_20 : decode cX7_withRank 20 = .ok (.ireturn, 1) := by decide +kernel
theorem dX7_withRank_21 : decode cX7_withRank 21 = .ok (.iinc 2 1, 3) := by decide +kernel
theorem dX7_withRank_24 : decode cX7_withRank 24 = .ok (.goto (-22), 3) := by decide +kernel
theorem dX7_withRank_27 : decode cX7_withRank 27 = .ok (.iconst (-1), 1) := by decide +kernel
theorem dX7_withRank_28 : decode cX7_withRank 28 = .ok (.ireturn, 1) := by decide +kernel
set_option maxRecDepth 20000 in
theorem ggX7_withRank_X7_numberBefore : GoodIn wsX7_withRank wsX7_numberBefore := goodIn_ca (goodIn_r _ [6, 1, 7, 8, 9, 5, 10, 11, 12, 13, 14, 15, 16, 17, 18, 19, 20, 21, 22, 23, 24] (by decide +kernel) (by decide +kernel)) (goodIn_sub (fun _ h => List.mem_cons_of_mem _ (List.mem_append_right _ h)) (by decide +kernel))
set_option maxRecDepth 20000 in
theorem gX7_withRank_X7_numberBefore : GoodIn wsX7_withRank (wsV RX7 82 RX7 yX7_numberBefore wsX7_numberBefore) := goodIn_app (goodIn_of _ (by decide +kernel)) ggX7_withRank_X7_numberBefore
def rm_X7_withRank : Room := { frames := 3, cells := 0, slots := 0, locals := 61 }
set_option maxHeartbeats 4000000 in
set_option maxRecDepth 100000 in
theorem c_X7_withRank (l : Launch) {nb : Nat} {G : zG} {ad : Nat → Nat} {σ σ' : zs} {a1 : Int32} {r : Int32} (hf : f_X7_withRank σ a1 = some (r, σ')) : zMi l yX7_withRank wsX7_withRank rm_X7_withRank G (zS nb) ad σ [.ref (ad 2), .int a1] r σ' := by
  intro sz
  refine Met.ofW (cc := cX7_withRank) (maxL := 3) (ret := (some .int)) (by decide) rfl ?_
  intro p e s m args below meth c s₁ B hml hv
  obtain ⟨rfl, hsz, hv⟩ := hv
  have hx := B.exec
  have hb := B.bytes
  have hr := B.returns
  have hts := atoms_spec (ws := wsX7_withRank) B.pre
  have hown : s.vm.findClass RX7 = some m.cls := findClass_of_methodNamed B.named
  have hlocks := B.notSynchronized
  subst hsz
  have B := zB_start hv
  have hinRX7 : ∀ w ∈ wsX70, w ∈ wsX7_withRank := by decide +kernel
  have hl := lv_entry ([.ref (ad 2), .int a1]) (n := 3) (Nat.le_of_ble_eq_true rfl)
  rw [lg_entry_eq]
  generalize (lg_sl ([.ref (ad 2), .int a1]) ++ List.replicate (3 - (lg_sl ([.ref (ad 2), .int a1])).length) Slot.unset).toArray = ls at hl ⊢
  have hl : lv_has ls 3 [(0, .ref (ad 2)), (1, .int a1)] := hl
  generalize hAe : zA ad (zS nb).length s.heap.size = A at B ⊢
  have L2 : ∀ (n : Nat) (σ : zs) (v1 : Int32) (v2 : Int32) (H : Heap) (locs : List Loc) (ls : Array Slot), zlp2 (f_X7_withRank_2) n σ v1 v2 = some (r, σ') → zB A s G (zS nb) ad σ H locs → lv_has ls 3 [(0, .ref (ad 2)), (1, .int v1), (2, .int v2)] → W p l e (headSpec wsX7_withRank rm_X7_withRank).room s m ([.ref (ad 2), .int a1] : List Value).toArray below meth c H locs 0 0 (MQ below (va_Qi (fun r' (_ : Unit) => r' = r) (zPost G (zS nb) ad σ') A) ([.ref (ad 2), .int a1] : List Value).toArray s 0 0 A) (F0 m 2 ls []) := by
    intro n
    induction n with
    | zero =>
      intro σ v1 v2 H locs ls hf
      cases hf
    | succ n ih =>
      intro σ v1 v2 H locs ls hf B hl
      have hf : f_X7_withRank_2 (zlp2 (f_X7_withRank_2) n) σ v1 v2 = some (r, σ') := hf
      unfold f_X7_withRank_2 at hf
      refine lv_iload_n hx hb dX7_withRank_2 rfl (lv_at hl 2 rfl) ?_
      refine lv_aload_n hx hb dX7_withRank_3 rfl (lv_at hl 0 rfl) ?_
      refine z_geti hx hb hts hinRX7 hown B 2 0 rfl rfl rfl (by decide) (by decide +kernel) rfl dX7_withRank_4 ?_
      refine lv_icmp_ge (tgt := 27) hx hb dX7_withRank_7 (by decide) (fun hc => ?_) (fun hc => ?_)
      · have hf := zif_t hc hf
        refine lv_iconst (v := (-1 : Int32)) hx hb dX7_withRank_27 (by decide) ?_
        refine W.widen (k := 0) (n := 0) (Nat.le_of_ble_eq_true rfl) (Nat.le_of_ble_eq_true rfl) ?_
        exact z_iret hx hb hr rfl hlocks B hf dX7_withRank_28
      · have hf := zif_f hc hf
        refine lv_aload_n hx hb dX7_withRank_10 rfl (lv_at hl 0 rfl) ?_
        refine lv_iload_n hx hb dX7_withRank_11 rfl (lv_at hl 2 rfl) ?_
        obtain ⟨r2, σ3, hu1, hf⟩ := zb_some hf
        refine z_i B (va_runV (As := [.int v2]) (rest := []) ⟨hx, hb, hml, hown, hts⟩ (c_X7_numberBefore l hu1 _) (cwV 1 hts gX7_withRank_X7_numberBefore rfl rfl rfl (by decide +kernel) ⟨Nat.le_of_ble_eq_true rfl, Nat.le_of_ble_eq_true rfl⟩) (z_preV B rfl rfl) rfl rfl hl.1 rfl (lv_room (Nat.le_of_ble_eq_true rfl)) dX7_withRank_12 ⟨Nat.le_of_ble_eq_true rfl, Nat.le_of_ble_eq_true rfl⟩) (fun H locs B => ?_)
        refine lv_iload_n hx hb dX7_withRank_15 rfl (lv_at hl 1 rfl) ?_
        refine lv_icmp_ne (tgt := 21) hx hb dX7_withRank_16 (by decide) (fun hc => ?_) (fun hc => ?_)
        · have hf := zif_f hc hf
          refine lv_iinc (v := (v2 + (1 : Int32))) (lv' := [(2, .int (v2 + (1 : Int32))), (0, .ref (ad 2)), (1, .int v1)]) hx hb dX7_withRank_21 hl (k := 2) rfl (zc1 (by decide)) (by decide) rfl (fun ls hl => ?_)
          refine lv_goto (tgt := 2) hx hb dX7_withRank_24 (by decide) ?_
          exact ih _ _ _ _ _ _ hf B (lv_sub hl [1, 2, 0] rfl)
        · have hf := zif_t hc hf
          refine lv_iload_n hx hb dX7_withRank_19 rfl (lv_at hl 2 rfl) ?_
          refine W.widen (k := 0) (n := 0) (Nat.le_of_ble_eq_true rfl) (Nat.le_of_ble_eq_true rfl) ?_
          exact z_iret hx hb hr rfl hlocks B hf dX7_withRank_20
  unfold f_X7_withRank at hf
  refine lv_iconst (v := (0 : Int32)) hx hb dX7_withRank_0 (by decide) ?_
  refine lv_istore_n (lv' := [(2, .int (0 : Int32)), (0, .ref (ad 2)), (1, .int a1)]) hx hb dX7_withRank_1 rfl hl (by decide) rfl (fun ls hl => ?_)
  exact L2  _ _ _ _ _ _ _ hf B (lv_sub hl [1, 2, 0] rfl)
theorem dX7_openRights_0 : decode cX7_openRights 0 = .ok (.aload_n 0, 1) := by decide +kernel
theorem dX7_openRights_1 : decode cX7_openRights 1 = .ok (.iload_n 2, 1) := by decide +kernel
theorem dX7_openRights_2 : decode cX7_openRights 2 = .ok (.invokevirtual 74, 3) := by decide +kernel
theorem dX7_openRights_5 : decode cX7_openRights 5 = .ok (.ifCond .eq 5, 3) := by decide +kernel
theorem dX7_openRights_8 : decode cX7_openRights 8 = .ok (.iconst 0, 1) := by decide +kernel
theorem dX7_openRights_9 : decode cX7_openRights 9 = .ok (.ireturn, 1) := by decide +kernel
theorem dX7_openRights_10 : decode cX7_openRights 10 = .ok (.aload_n 0, 1) := by decide +kernel
theorem dX7_openRights_11 : decode cX7_openRights 11 = .ok (.iload_n 2, 1) := by decide +kernel
theorem dX7_openRights_12 : decode cX7_openRights 12 = .ok (.invokevirtual 95, 3) := by decide +kernel
theorem dX7_openRights_15 : decode cX7_openRights 15 = .ok (.astore 4, 2) := by decide +kernel
theorem dX7_openRights_17 : decode cX7_openRights 17 = .ok (.aload 4, 2) := by decide +kernel
theorem dX7_openRights_19 : decode cX7_openRights 19 = .ok (.getfield 99, 3) := by decide +kernel
theorem dX7_openRights_22 : decode cX7_openRights 22 = .ok (.iconst (-1), 1) := by decide +kernel
theorem dX7_openRights_23 : decode cX7_openRights 23 = .ok (.if_icmp .eq 12, 3) := by decide +kernel
theorem dX7_openRights_26 : decode cX7_openRights 26 = .ok (.iload_n 3, 1) := by decide +kernel
theorem dX7_openRights_27 : decode cX7_openRights 27 = .ok (.aload 4, 2) := by decide +kernel
theorem dX7_openRights_29 : decode cX7_openRights 29 = .ok (.getfield 99, 3) := by decide +kernel
theorem dX7_openRights_32 : decode cX7_openRights 32 = .ok (.if_icmp .ge 7, 3) := by decide +kernel
theorem dX7_openRights_35 : decode cX7_openRights 35 = .ok (.iconst 1, 1) := by decide +kernel
theorem dX7_openRights_36 : decode cX7_openRights 36 = .ok (.goto 4, 3) := by decide +kernel
theorem dX7_openRights_39 : decode cX7_openRights 39 = .ok (.iconst 0, 1) := by decide +kernel
theorem dX7_openRights_40 : decode cX7_openRights 40 = .ok (.istore 5, 2) := by decide +kernel
theorem dX7_openRights_42 : decode cX7_openRights 42 = .ok (.iload 5, 2) := by decide +kernel
theorem dX7_openRights_44 : decode cX7_openRights 44 = .ok (.ifCond .eq 35, 3) := by decide +kernel
theorem dX7_openRights_47 : decode cX7_openRights 47 = .ok (.aload 4, 2) := by decide +kernel
theorem dX7_openRights_49 : decode cX7_openRights 49 = .ok (.getfield 102, 3) := by decide +kernel
theorem dX7_openRights_52 : decode cX7_openRights 52 = .ok (.iload_n 1, 1) := by decide +kernel
theorem dX7_openRights_53 : decode cX7_openRights 53 = .ok (.invokestatic 71, 3) := by decide +kernel
theorem dX7_openRights_56 : decode cX7_openRights 56 = .ok (.ifCond .eq 23, 3) := by decide +kernel
theorem dX7_openRights_59 : decode cX7_openRights 59 = .ok (.aload 4, 2) := by decide +kernel
theorem dX7_openRights_61 : decode cX7_openRights 61 = .ok (.getfield 105, 3) := by decide +kernel
theorem dX7_openRights_64 : decode cX7_openRights 64 = .ok (.ifCond .eq 15, 3) := by decide +kernel
theorem dX7_openRights_67 : decode cX7_openRights 67 = .ok (.aload 4, 2) := by decide +kernel
theorem dX7_openRights_69 : decode cX7_openRights 69 = .ok (.invokevirtual 107, 3) := by decide +kernel
theorem dX7_openRights_72 : decode cX7_openRights 72 = .ok (.ifCond .eq 7, 3) := by decide +kernel
theorem dX7_openRights_75 : decode cX7_openRights 75 = .ok (.iconst 1, 1) := by decide +kernel
theorem dX7_openRights_76 : decode cX7_openRights 76 = .ok (.goto 4, 3) := by decide +kernel
theorem dX7_openRights_79 : decode cX7_openRights 79 = .ok (.iconst 0, 1) := by decide +kernel
theorem dX7_openRights_80 : decode cX7_openRights 80 = .ok (.istore 6, 2) := by decide +kernel
theorem dX7_openRights_82 : decode cX7_openRights 82 = .ok (.iload 6, 2) := by decide +kernel
theorem dX7_openRights_84 : decode cX7_openRights 84 = .ok (.ifCond .eq 11, 3) := by decide +kernel
theorem dX7_openRights_87 : decode cX7_openRights 87 = .ok (.aload 4, 2) := by decide +kernel
theorem dX7_openRights_89 : decode cX7_openRights 89 = .ok (.getfield 111, 3) := by decide +kernel
theorem dX7_openRights_92 : decode cX7_openRights 92 = .ok (.goto 4, 3) := by decide +kernel
theorem dX7_openRights_95 : decode cX7_openRights 95 = .ok (.iconst 0, 1) := by decide +kernel
theorem dX7_openRights_96 : decode cX7_openRights 96 = .ok (.ireturn, 1) := by decide +kernel
set_option maxRecDepth 20000 in
theorem ggX7_openRights_X7_isEnded : GoodIn wsX7_openRights wsX7_isEnded := goodIn_ca (goodIn_r _ [9, 10, 11, 12, 61, 62, 63, 64, 65, 66, 67, 68, 69, 70, 71, 72] (by decide +kernel) (by decide +kernel)) (goodIn_sub (fun _ h => List.mem_cons_of_mem _ (List.mem_append_right _ h)) (by decide +kernel))
set_option maxRecDepth 20000 in
theorem gX7_openRights_X7_isEnded : GoodIn wsX7_openRights (wsV RX7 74 RX7 yX7_isEnded wsX7_isEnded) := goodIn_app (goodIn_of _ (by decide +kernel)) ggX7_openRights_X7_isEnded
set_option maxRecDepth 20000 in
theorem ggX7_openRights_X7_limitsOf : GoodIn wsX7_openRights wsX7_limitsOf := goodIn_ca (goodIn_r _ [16, 17, 10, 12, 18, 19, 20, 21, 22, 23, 24, 25, 26, 27, 28, 29, 30, 31, 32, 33, 34, 35, 36, 37, 38, 39, 40, 41, 42, 43, 44, 45, 46, 47, 61, 62, 63, 64, 65, 66, 67, 68, 69, 70, 71, 72, 55, 56, 57, 58, 59, 60] (by decide +kernel) (by decide +kernel)) (goodIn_sub (fun _ h => List.mem_cons_of_mem _ (List.mem_append_right _ h)) (by decide +kernel))
set_option maxRecDepth 20000 in
theorem gX7_openRights_X7_limitsOf : GoodIn wsX7_openRights (wsV RX7 95 RX7 yX7_limitsOf wsX7_limitsOf) := goodIn_app (goodIn_of _ (by decide +kernel)) ggX7_openRights_X7_limitsOf
set_option maxRecDepth 20000 in
theorem ggX7_openRights_X8_hasBit : GoodIn wsX7_openRights wsX8_hasBit := goodIn_r _ [50] (by decide +kernel) (by decide +kernel)
set_option maxRecDepth 20000 in
theorem gX7_openRights_X8_hasBit_n71 : GoodIn wsX7_openRights (wsX8_hasBit) := ggX7_openRights_X8_hasBit
set_option maxRecDepth 20000 in
theorem ggX7_openRights_X3_hasArgument : GoodIn wsX7_openRights wsX3_hasArgument := goodIn_r _ [54, 32, 33, 55, 56, 57, 58, 59, 60] (by decide +kernel) (by decide +kernel)
set_option maxRecDepth 20000 in
theorem gX7_openRights_X3_hasArgument : GoodIn wsX7_openRights (wsV RX7 107 RX3 yX3_hasArgument wsX3_hasArgument) := goodIn_app (goodIn_of _ (by decide +kernel)) ggX7_openRights_X3_hasArgument
def rm_X7_openRights : Room := { frames := 4, cells := 0, slots := 0, locals := 89 }
set_option maxHeartbeats 4000000 in
set_option maxRecDepth 100000 in
theorem c_X7_openRights (l : Launch) {nb : Nat} {G : zG} {ad : Nat → Nat} {σ σ' : zs} {a1 a2 a3 : Int32} {r : Int32} (hf : f_X7_openRights σ a1 a2 a3 = some (r, σ')) : zMi l yX7_openRights wsX7_openRights rm_X7_openRights G (zS nb) ad σ [.ref (ad 2), .int a1, .int a2, .int a3] r σ' := by
  intro sz
  refine Met.ofW (cc := cX7_openRights) (maxL := 7) (ret := (some .int)) (by decide) rfl ?_
  intro p e s m args below meth c s₁ B hml hv
  obtain ⟨rfl, hsz, hv⟩ := hv
  have hx := B.exec
  have hb := B.bytes
  have hr := B.returns
  have hts := atoms_spec (ws := wsX7_openRights) B.pre
  have hown : s.vm.findClass RX7 = some m.cls := findClass_of_methodNamed B.named
  have hlocks := B.notSynchronized
  subst hsz
  have B := zB_start hv
  have hinRX3 : ∀ w ∈ wsX30, w ∈ wsX7_openRights := by decide +kernel
  have hl := lv_entry ([.ref (ad 2), .int a1, .int a2, .int a3]) (n := 7) (Nat.le_of_ble_eq_true rfl)
  rw [lg_entry_eq]
  generalize (lg_sl ([.ref (ad 2), .int a1, .int a2, .int a3]) ++ List.replicate (7 - (lg_sl ([.ref (ad 2), .int a1, .int a2, .int a3])).length) Slot.unset).toArray = ls at hl ⊢
  have hl : lv_has ls 7 [(0, .ref (ad 2)), (1, .int a1), (2, .int a2), (3, .int a3)] := hl
  generalize hAe : zA ad (zS nb).length s.heap.size = A at B ⊢
  have L80 : ∀ (σ : zs) (s0 : Int32) (H : Heap) (locs : List Loc) (ls : Array Slot), f_X7_openRights_80 σ s0 = some (r, σ') → zB A s G (zS nb) ad σ H locs → lv_has ls 7 [(4, .ref (ad 13))] → W p l e (headSpec wsX7_openRights rm_X7_openRights).room s m ([.ref (ad 2), .int a1, .int a2, .int a3] : List Value).toArray below meth c H locs 0 0 (MQ below (va_Qi (fun r' (_ : Unit) => r' = r) (zPost G (zS nb) ad σ') A) ([.ref (ad 2), .int a1, .int a2, .int a3] : List Value).toArray s 0 0 A) (F0 m 80 ls [.int s0]) := by
    intro σ s0 H locs ls hf B hl
    unfold f_X7_openRights_80 at hf
    refine lv_istore (lv' := [(6, .int s0), (4, .ref (ad 13))]) hx hb dX7_openRights_80 hl (by decide) rfl (fun ls hl => ?_)
    refine lv_iload hx hb dX7_openRights_82 (lv_at hl 0 rfl) ?_
    refine lv_if_eq (tgt := 95) hx hb dX7_openRights_84 (by decide) (fun hc => ?_) (fun hc => ?_)
    · have hf := zif_t hc hf
      refine lv_iconst (v := (0 : Int32)) hx hb dX7_openRights_95 (by decide) ?_
      refine W.widen (k := 0) (n := 0) (Nat.le_of_ble_eq_true rfl) (Nat.le_of_ble_eq_true rfl) ?_
      exact z_iret hx hb hr rfl hlocks B hf dX7_openRights_96
    · have hf := zif_f hc hf
      refine lv_aload hx hb dX7_openRights_87 (lv_at hl 1 rfl) ?_
      refine z_geti hx hb hts hinRX3 hown B 13 0 rfl rfl rfl (by decide) (by decide +kernel) rfl dX7_openRights_89 ?_
      refine lv_goto (tgt := 96) hx hb dX7_openRights_92 (by decide) ?_
      refine W.widen (k := 0) (n := 0) (Nat.le_of_ble_eq_true rfl) (Nat.le_of_ble_eq_true rfl) ?_
      exact z_iret hx hb hr rfl hlocks B hf dX7_openRights_96
  have L40 : ∀ (σ : zs) (v1 : Int32) (s0 : Int32) (H : Heap) (locs : List Loc) (ls : Array Slot), f_X7_openRights_40 σ v1 s0 = some (r, σ') → zB A s G (zS nb) ad σ H locs → lv_has ls 7 [(1, .int v1), (4, .ref (ad 13))] → W p l e (headSpec wsX7_openRights rm_X7_openRights).room s m ([.ref (ad 2), .int a1, .int a2, .int a3] : List Value).toArray below meth c H locs 0 0 (MQ below (va_Qi (fun r' (_ : Unit) => r' = r) (zPost G (zS nb) ad σ') A) ([.ref (ad 2), .int a1, .int a2, .int a3] : List Value).toArray s 0 0 A) (F0 m 40 ls [.int s0]) := by
    intro σ v1 s0 H locs ls hf B hl
    unfold f_X7_openRights_40 at hf
    refine lv_istore (lv' := [(5, .int s0), (1, .int v1), (4, .ref (ad 13))]) hx hb dX7_openRights_40 hl (by decide) rfl (fun ls hl => ?_)
    refine lv_iload hx hb dX7_openRights_42 (lv_at hl 0 rfl) ?_
    refine lv_if_eq (tgt := 79) hx hb dX7_openRights_44 (by decide) (fun hc => ?_) (fun hc => ?_)
    · have hf := zif_t hc hf
      refine lv_iconst (v := (0 : Int32)) hx hb dX7_openRights_79 (by decide) ?_
      exact L80  _ _ _ _ _ hf B (lv_sub hl [2] rfl)
    · have hf := zif_f hc hf
      refine lv_aload hx hb dX7_openRights_47 (lv_at hl 2 rfl) ?_
      refine z_geti hx hb hts hinRX3 hown B 13 2 rfl rfl rfl (by decide) (by decide +kernel) rfl dX7_openRights_49 ?_
      refine lv_iload_n hx hb dX7_openRights_52 rfl (lv_at hl 1 rfl) ?_
      obtain ⟨r8, σ9, hu7, hf⟩ := zb_some hf
      refine z_i B (va_runSN (As := [.int (σ 13 2), .int v1]) (rest := []) ⟨hx, hb, hml, hown, hts⟩ (c_X8_hasBit l hu7 _) ⟨va_cnB 2 hts gX7_openRights_X8_hasBit_n71 rfl rfl rfl (z_nest B (q := (RX7, 71, yX8_hasBit)) (by decide +kernel)) (hts (.initialized RX8) (by decide +kernel)) (by decide +kernel) ⟨Nat.le_of_ble_eq_true rfl, Nat.le_of_ble_eq_true rfl⟩, hts (.static yX8_hasBit) (by decide +kernel), trivial⟩ (z_preS B) rfl rfl hl.1 rfl (lv_room (Nat.le_of_ble_eq_true rfl)) dX7_openRights_53 ⟨Nat.le_of_ble_eq_true rfl, Nat.le_of_ble_eq_true rfl⟩) (fun H locs B => ?_)
      refine lv_if_eq (tgt := 79) hx hb dX7_openRights_56 (by decide) (fun hc => ?_) (fun hc => ?_)
      · have hf := zif_t hc hf
        refine lv_iconst (v := (0 : Int32)) hx hb dX7_openRights_79 (by decide) ?_
        exact L80  _ _ _ _ _ hf B (lv_sub hl [2] rfl)
      · have hf := zif_f hc hf
        refine lv_aload hx hb dX7_openRights_59 (lv_at hl 2 rfl) ?_
        refine z_geti hx hb hts hinRX3 hown B 13 3 rfl rfl rfl (by decide) (by decide +kernel) rfl dX7_openRights_61 ?_
        refine lv_if_eq (tgt := 79) hx hb dX7_openRights_64 (by decide) (fun hc => ?_) (fun hc => ?_)
        · have hf := zif_t hc hf
          refine lv_iconst (v := (0 : Int32)) hx hb dX7_openRights_79 (by decide) ?_
          exact L80  _ _ _ _ _ hf B (lv_sub hl [2] rfl)
        · have hf := zif_f hc hf
          refine lv_aload hx hb dX7_openRights_67 (lv_at hl 2 rfl) ?_
          obtain ⟨r11, σ12, hu10, hf⟩ := zb_some hf
          refine z_i B (va_runV (As := []) (rest := []) ⟨hx, hb, hml, hown, hts⟩ (c_X3_hasArgument l hu10 _) (cwV 0 hts gX7_openRights_X3_hasArgument rfl rfl rfl (by decide +kernel) ⟨Nat.le_of_ble_eq_true rfl, Nat.le_of_ble_eq_true rfl⟩) (z_preV B rfl rfl) rfl rfl hl.1 rfl (lv_room (Nat.le_of_ble_eq_true rfl)) dX7_openRights_69 ⟨Nat.le_of_ble_eq_true rfl, Nat.le_of_ble_eq_true rfl⟩) (fun H locs B => ?_)
          refine lv_if_eq (tgt := 79) hx hb dX7_openRights_72 (by decide) (fun hc => ?_) (fun hc => ?_)
          · have hf := zif_t hc hf
            refine lv_iconst (v := (0 : Int32)) hx hb dX7_openRights_79 (by decide) ?_
            exact L80  _ _ _ _ _ hf B (lv_sub hl [2] rfl)
          · have hf := zif_f hc hf
            refine lv_iconst (v := (1 : Int32)) hx hb dX7_openRights_75 (by decide) ?_
            refine lv_goto (tgt := 80) hx hb dX7_openRights_76 (by decide) ?_
            exact L80  _ _ _ _ _ hf B (lv_sub hl [2] rfl)
  unfold f_X7_openRights at hf
  refine lv_aload_n hx hb dX7_openRights_0 rfl (lv_at hl 0 rfl) ?_
  refine lv_iload_n hx hb dX7_openRights_1 rfl (lv_at hl 2 rfl) ?_
  obtain ⟨r2, σ3, hu1, hf⟩ := zb_some hf
  refine z_i B (va_runV (As := [.int a2]) (rest := []) ⟨hx, hb, hml, hown, hts⟩ (c_X7_isEnded l hu1 _) (cwV 1 hts gX7_openRights_X7_isEnded rfl rfl rfl (by decide +kernel) ⟨Nat.le_of_ble_eq_true rfl, Nat.le_of_ble_eq_true rfl⟩) (z_preV B rfl rfl) rfl rfl hl.1 rfl (lv_room (Nat.le_of_ble_eq_true rfl)) dX7_openRights_2 ⟨Nat.le_of_ble_eq_true rfl, Nat.le_of_ble_eq_true rfl⟩) (fun H locs B => ?_)
  refine lv_if_eq (tgt := 10) hx hb dX7_openRights_5 (by decide) (fun hc => ?_) (fun hc => ?_)
  · have hf := zif_t hc hf
    refine lv_aload_n hx hb dX7_openRights_10 rfl (lv_at hl 0 rfl) ?_
    refine lv_iload_n hx hb dX7_openRights_11 rfl (lv_at hl 2 rfl) ?_
    obtain ⟨r5, σ6, hu4, hf⟩ := zb_some hf
    refine z_r B (va_runV (As := [.int a2]) (rest := []) ⟨hx, hb, hml, hown, hts⟩ (c_X7_limitsOf l hu4 _) (cwV 1 hts gX7_openRights_X7_limitsOf rfl rfl rfl (by decide +kernel) ⟨Nat.le_of_ble_eq_true rfl, Nat.le_of_ble_eq_true rfl⟩) (z_preV B rfl rfl) rfl rfl hl.1 rfl (lv_room (Nat.le_of_ble_eq_true rfl)) dX7_openRights_12 ⟨Nat.le_of_ble_eq_true rfl, Nat.le_of_ble_eq_true rfl⟩) (fun H locs B => ?_)
    refine lv_astore (lv' := [(4, .ref (ad 13)), (0, .ref (ad 2)), (1, .int a1), (2, .int a2), (3, .int a3)]) hx hb dX7_openRights_15 hl (by decide) rfl (fun ls hl => ?_)
    refine lv_aload hx hb dX7_openRights_17 (lv_at hl 0 rfl) ?_
    refine z_geti hx hb hts hinRX3 hown B 13 1 rfl rfl rfl (by decide) (by decide +kernel) rfl dX7_openRights_19 ?_
    refine lv_iconst (v := (-1 : Int32)) hx hb dX7_openRights_22 (by decide) ?_
    refine lv_icmp_eq (tgt := 35) hx hb dX7_openRights_23 (by decide) (fun hc => ?_) (fun hc => ?_)
    · have hf := zif_t hc hf
      refine lv_iconst (v := (1 : Int32)) hx hb dX7_openRights_35 (by decide) ?_
      refine lv_goto (tgt := 40) hx hb dX7_openRights_36 (by decide) ?_
      exact L40  _ _ _ _ _ _ hf B (lv_sub hl [2, 0] rfl)
    · have hf := zif_f hc hf
      refine lv_iload_n hx hb dX7_openRights_26 rfl (lv_at hl 4 rfl) ?_
      refine lv_aload hx hb dX7_openRights_27 (lv_at hl 0 rfl) ?_
      refine z_geti hx hb hts hinRX3 hown B 13 1 rfl rfl rfl (by decide) (by decide +kernel) rfl dX7_openRights_29 ?_
      refine lv_icmp_ge (tgt := 39) hx hb dX7_openRights_32 (by decide) (fun hc => ?_) (fun hc => ?_)
      · have hf := zif_t hc hf
        refine lv_iconst (v := (0 : Int32)) hx hb dX7_openRights_39 (by decide) ?_
        exact L40  _ _ _ _ _ _ hf B (lv_sub hl [2, 0] rfl)
      · have hf := zif_f hc hf
        refine lv_iconst (v := (1 : Int32)) hx hb dX7_openRights_35 (by decide) ?_
        refine lv_goto (tgt := 40) hx hb dX7_openRights_36 (by decide) ?_
        exact L40  _ _ _ _ _ _ hf B (lv_sub hl [2, 0] rfl)
  · have hf := zif_f hc hf
    refine lv_iconst (v := (0 : Int32)) hx hb dX7_openRights_8 (by decide) ?_
    refine W.widen (k := 0) (n := 0) (Nat.le_of_ble_eq_true rfl) (Nat.le_of_ble_eq_true rfl) ?_
    exact z_iret hx hb hr rfl hlocks B hf dX7_openRights_9
theorem dX8_needSubject_0 : decode cX8_needSubject 0 = .ok (.iload_n 0, 1) := by decide +kernel
theorem dX8_needSubject_1 : decode cX8_needSubject 1 = .ok (.ifCond .lt 13, 3) := by decide +kernel
theorem dX8_needSubject_4 : decode cX8_needSubject 4 = .ok (.iload_n 0, 1) := by decide +kernel
theorem dX8_needSubject_5 : decode cX8_needSubject 5 = .ok (.bipush 6, 2) := by decide +kernel
theorem dX8_needSubject_7 : decode cX8_needSubject 7 = .ok (.if_icmp .ge 7, 3) := by decide +kernel
theorem dX8_needSubject_10 : decode cX8_needSubject 10 = .ok (.iconst 1, 1) := by decide +kernel
theorem dX8_needSubject_11 : decode cX8_needSubject 11 = .ok (.goto 4, 3) := by decide +kernel
theorem dX8_needSubject_14 : decode cX8_needSubject 14 = .ok (.iconst 0, 1) := by decide +kernel
theorem dX8_needSubject_15 : decode cX8_needSubject 15 = .ok (.invokestatic 186, 3) := by decide +kernel
theorem dX8_needSubject_18 : decode cX8_needSubject 18 = .ok (.return_, 1) := by decide +kernel
set_option maxRecDepth 20000 in
theorem ggX8_needSubject_X8_needIndex : GoodIn wsX8_needSubject wsX8_needIndex := goodIn_ca (goodIn_r _ [4, 5, 6] (by decide +kernel) (by decide +kernel)) (goodIn_sub (fun _ h => List.mem_cons_of_mem _ (List.mem_append_right _ h)) (by decide +kernel))
set_option maxRecDepth 20000 in
theorem gX8_needSubject_X8_needIndex : GoodIn wsX8_needSubject (va_wsS RX8 186 yX8_needIndex wsX8_needIndex) := goodIn_app (goodIn_of _ (by decide +kernel)) ggX8_needSubject_X8_needIndex
def rm_X8_needSubject : Room := { frames := 9, cells := 1, slots := 6, locals := 220 }
set_option maxHeartbeats 4000000 in
set_option maxRecDepth 100000 in
theorem c_X8_needSubject (l : Launch) (hfl : l.stackTraces = false) {nb : Nat} {G : zG} {ad : Nat → Nat} {σ σ' : zs} {a0 : Int32} {ex : Nat} {r : Int32} (hf : f_X8_needSubject σ a0 = some (ex, r, σ')) : zXv l yX8_needSubject wsX8_needSubject rm_X8_needSubject G (zS nb) ad σ [.int a0] ex σ' := by
  intro sz
  refine vx_ofW (cc := cX8_needSubject) (maxL := 1) (ret := none) (by decide) rfl ?_
  intro p e s m args below meth c s₁ B hml hno hv
  obtain ⟨rfl, hsz, hv⟩ := hv
  have hx := B.exec
  have hb := B.bytes
  have hr := B.returns
  have hts := atoms_spec (ws := wsX8_needSubject) B.pre
  have hown : s.vm.findClass RX8 = some m.cls := findClass_of_methodNamed B.named
  have hlocks := B.notSynchronized
  subst hsz
  have B := zB_start hv
  have hl := lv_entry ([.int a0]) (n := 1) (Nat.le_of_ble_eq_true rfl)
  rw [lg_entry_eq]
  generalize (lg_sl ([.int a0]) ++ List.replicate (1 - (lg_sl ([.int a0])).length) Slot.unset).toArray = ls at hl ⊢
  have hl : lv_has ls 1 [(0, .int a0)] := hl
  generalize hAe : zA ad (zS nb).length s.heap.size = A at B ⊢
  have L15 : ∀ (σ : zs) (s0 : Int32) (H : Heap) (locs : List Loc) (ls : Array Slot), f_X8_needSubject_15 σ s0 = some (ex, r, σ') → zB A s G (zS nb) ad σ H locs → lv_has ls 1 [] → W p l e (headSpec wsX8_needSubject rm_X8_needSubject).room s m ([.int a0] : List Value).toArray below meth c H locs 0 0 (vx_MQ below (va_Qv (fun (_ : Unit) => ex = 0) (zPost G (zS nb) ad σ') A) (zXC G (zS nb) ad ex σ' A) ([.int a0] : List Value).toArray s 1 6 A) (F0 m 15 ls [.int s0]) := by
    intro σ s0 H locs ls hf B hl
    unfold f_X8_needSubject_15 at hf
    obtain ⟨u1, r2, σ3, hu1, hf⟩ := zx_some hf
    refine z_xv B (vx_runS (As := [.int s0]) (rest := []) ⟨hx, hb, hml, hown, hts⟩ (c_X8_needIndex l hfl hu1 _) (va_cwS 1 hts gX8_needSubject_X8_needIndex rfl rfl rfl (by decide +kernel) ⟨Nat.le_of_ble_eq_true rfl, Nat.le_of_ble_eq_true rfl⟩) (z_preS B) rfl rfl hl.1 rfl (lv_room (Nat.le_of_ble_eq_true rfl)) dX8_needSubject_15 ⟨Nat.le_of_ble_eq_true rfl, Nat.le_of_ble_eq_true rfl⟩) (fun H locs ce q9 h0 B k1 k2 k3 => ?_) (fun H locs h0 B => ?_)
    · exact z_xout hno hlocks (zx_no hf h0) h0 B k1 k2 k3 (Nat.le_of_ble_eq_true rfl) (Nat.le_of_ble_eq_true rfl)
    have hf := zx_ok hf h0
    refine W.widen (k := 1) (n := 6) (Nat.le_of_ble_eq_true rfl) (Nat.le_of_ble_eq_true rfl) ?_
    exact z_xvret hx hb hr hlocks B hf dX8_needSubject_18
  unfold f_X8_needSubject at hf
  refine lv_iload_n hx hb dX8_needSubject_0 rfl (lv_at hl 0 rfl) ?_
  refine lv_if_lt (tgt := 14) hx hb dX8_needSubject_1 (by decide) (fun hc => ?_) (fun hc => ?_)
  · have hf := zif_t hc hf
    refine lv_iconst (v := (0 : Int32)) hx hb dX8_needSubject_14 (by decide) ?_
    exact L15  _ _ _ _ _ hf B (lv_sub hl [] rfl)
  · have hf := zif_f hc hf
    refine lv_iload_n hx hb dX8_needSubject_4 rfl (lv_at hl 0 rfl) ?_
    refine lv_bipush (v := (6 : Int32)) hx hb dX8_needSubject_5 (by decide) ?_
    refine lv_icmp_ge (tgt := 14) hx hb dX8_needSubject_7 (by decide) (fun hc => ?_) (fun hc => ?_)
    · have hf := zif_t hc hf
      refine lv_iconst (v := (0 : Int32)) hx hb dX8_needSubject_14 (by decide) ?_
      exact L15  _ _ _ _ _ hf B (lv_sub hl [] rfl)
    · have hf := zif_f hc hf
      refine lv_iconst (v := (1 : Int32)) hx hb dX8_needSubject_10 (by decide) ?_
      refine lv_goto (tgt := 15) hx hb dX8_needSubject_11 (by decide) ?_
      exact L15  _ _ _ _ _ hf B (lv_sub hl [] rfl)
theorem dX8_needObject_0 : decode cX8_needObject 0 = .ok (.iload_n 0, 1) := by decide +kernel
theorem dX8_needObject_1 : decode cX8_needObject 1 = .ok (.ifCond .lt 13, 3) := by decide +kernel
theorem dX8_needObject_4 : decode cX8_needObject 4 = .ok (.iload_n 0, 1) := by decide +kernel
theorem dX8_needObject_5 : decode cX8_needObject 5 = .ok (.bipush 12, 2) := by decide +kernel
theorem dX8_needObject_7 : decode cX8_needObject 7 = .ok (.if_icmp .ge 7, 3) := by decide +kernel
theorem dX8_needObject_10 : decode cX8_needObject 10 = .ok (.iconst 1, 1) := by decide +kernel
theorem dX8_needObject_11 : decode cX8_needObject 11 = .ok (.goto 4, 3) := by decide +kernel
theorem dX8_needObject_14 : decode cX8_needObject 14 = .ok (.iconst 0, 1) := by decide +kernel
theorem dX8_needObject_15 : decode cX8_needObject 15 = .ok (.invokestatic 186, 3) := by decide +kernel
theorem dX8_needObject_18 : decode cX8_needObject 18 = .ok (.return_, 1) := by decide +kernel
set_option maxRecDepth 20000 in
theorem ggX8_needObject_X8_needIndex : GoodIn wsX8_needObject wsX8_needIndex := goodIn_ca (goodIn_r _ [4, 5, 6] (by decide +kernel) (by decide +kernel)) (goodIn_sub (fun _ h => List.mem_cons_of_mem _ (List.mem_append_right _ h)) (by decide +kernel))
set_option maxRecDepth 20000 in
theorem gX8_needObject_X8_needIndex : GoodIn wsX8_needObject (va_wsS RX8 186 yX8_needIndex wsX8_needIndex) := goodIn_app (goodIn_of _ (by decide +kernel)) ggX8_needObject_X8_needIndex
def rm_X8_needObject : Room := { frames := 9, cells := 1, slots := 6, locals := 220 }
set_option maxHeartbeats 4000000 in
set_option maxRecDepth 100000 in
theorem c_X8_needObject (l : Launch) (hfl : l.stackTraces = false) {nb : Nat} {G : zG} {ad : Nat → Nat} {σ σ' : zs} {a0 : Int32} {ex : Nat} {r : Int32} (hf : f_X8_needObject σ a0 = some (ex, r, σ')) : zXv l yX8_needObject wsX8_needObject rm_X8_needObject G (zS nb) ad σ [.int a0] ex σ' := by
  intro sz
  refine vx_ofW (cc := cX8_needObject) (maxL := 1) (ret := none) (by decide) rfl ?_
  intro p e s m args below meth c s₁ B hml hno hv
  obtain ⟨rfl, hsz, hv⟩ := hv
  have hx := B.exec
  have hb := B.bytes
  have hr := B.returns
  have hts := atoms_spec (ws := wsX8_needObject) B.pre
  have hown : s.vm.findClass RX8 = some m.cls := findClass_of_methodNamed B.named
  have hlocks := B.notSynchronized
  subst hsz
  have B := zB_start hv
  have hl := lv_entry ([.int a0]) (n := 1) (Nat.le_of_ble_eq_true rfl)
  rw [lg_entry_eq]
  generalize (lg_sl ([.int a0]) ++ List.replicate (1 - (lg_sl ([.int a0])).length) Slot.unset).toArray = ls at hl ⊢
  have hl : lv_has ls 1 [(0, .int a0)] := hl
  generalize hAe : zA ad (zS nb).length s.heap.size = A at B ⊢
  have L15 : ∀ (σ : zs) (s0 : Int32) (H : Heap) (locs : List Loc) (ls : Array Slot), f_X8_needObject_15 σ s0 = some (ex, r, σ') → zB A s G (zS nb) ad σ H locs → lv_has ls 1 [] → W p l e (headSpec wsX8_needObject rm_X8_needObject).room s m ([.int a0] : List Value).toArray below meth c H locs 0 0 (vx_MQ below (va_Qv (fun (_ : Unit) => ex = 0) (zPost G (zS nb) ad σ') A) (zXC G (zS nb) ad ex σ' A) ([.int a0] : List Value).toArray s 1 6 A) (F0 m 15 ls [.int s0]) := by
    intro σ s0 H locs ls hf B hl
    unfold f_X8_needObject_15 at hf
    obtain ⟨u1, r2, σ3, hu1, hf⟩ := zx_some hf
    refine z_xv B (vx_runS (As := [.int s0]) (rest := []) ⟨hx, hb, hml, hown, hts⟩ (c_X8_needIndex l hfl hu1 _) (va_cwS 1 hts gX8_needObject_X8_needIndex rfl rfl rfl (by decide +kernel) ⟨Nat.le_of_ble_eq_true rfl, Nat.le_of_ble_eq_true rfl⟩) (z_preS B) rfl rfl hl.1 rfl (lv_room (Nat.le_of_ble_eq_true rfl)) dX8_needObject_15 ⟨Nat.le_of_ble_eq_true rfl, Nat.le_of_ble_eq_true rfl⟩) (fun H locs ce q9 h0 B k1 k2 k3 => ?_) (fun H locs h0 B => ?_)
    · exact z_xout hno hlocks (zx_no hf h0) h0 B k1 k2 k3 (Nat.le_of_ble_eq_true rfl) (Nat.le_of_ble_eq_true rfl)
    have hf := zx_ok hf h0
    refine W.widen (k := 1) (n := 6) (Nat.le_of_ble_eq_true rfl) (Nat.le_of_ble_eq_true rfl) ?_
    exact z_xvret hx hb hr hlocks B hf dX8_needObject_18
  unfold f_X8_needObject at hf
  refine lv_iload_n hx hb dX8_needObject_0 rfl (lv_at hl 0 rfl) ?_
  refine lv_if_lt (tgt := 14) hx hb dX8_needObject_1 (by decide) (fun hc => ?_) (fun hc => ?_)
  · have hf := zif_t hc hf
    refine lv_iconst (v := (0 : Int32)) hx hb dX8_needObject_14 (by decide) ?_
    exact L15  _ _ _ _ _ hf B (lv_sub hl [] rfl)
  · have hf := zif_f hc hf
    refine lv_iload_n hx hb dX8_needObject_4 rfl (lv_at hl 0 rfl) ?_
    refine lv_bipush (v := (12 : Int32)) hx hb dX8_needObject_5 (by decide) ?_
    refine lv_icmp_ge (tgt := 14) hx hb dX8_needObject_7 (by decide) (fun hc => ?_) (fun hc => ?_)
    · have hf := zif_t hc hf
      refine lv_iconst (v := (0 : Int32)) hx hb dX8_needObject_14 (by decide) ?_
      exact L15  _ _ _ _ _ hf B (lv_sub hl [] rfl)
    · have hf := zif_f hc hf
      refine lv_iconst (v := (1 : Int32)) hx hb dX8_needObject_10 (by decide) ?_
      refine lv_goto (tgt := 15) hx hb dX8_needObject_11 (by decide) ?_
      exact L15  _ _ _ _ _ hf B (lv_sub hl [] rfl)
theorem dX8_mint_0 : decode cX8_mint 0 = .ok (.iload_n 1, 1) := by decide +kernel
theorem dX8_mint_1 : decode cX8_mint 1 = .ok (.invokestatic 55, 3) := by decide +kernel
theorem dX8_mint_4 : decode cX8_mint 4 = .ok (.iload_n 2, 1) := by decide +kernel
theorem dX8_mint_5 : decode cX8_mint 5 = .ok (.invokestatic 59, 3) := by decide +kernel
theorem dX8_mint_8 : decode cX8_mint 8 = .ok (.iload_n 3, 1) := by decide +kernel
theorem dX8_mint_9 : decode cX8_mint 9 = .ok (.ifCond .lt 13, 3) := by decide +kernel
theorem dX8_mint_12 : decode cX8_mint 12 = .ok (.iload_n 3, 1) := by decide +kernel
theorem dX8_mint_13 : decode cX8_mint 13 = .ok (.bipush 15, 2) := by decide +kernel
theorem dX8_mint_15 : decode cX8_mint 15 = .ok (.if_icmp .gt 7, 3) := by decide +kernel
theorem dX8_mint_18 : decode cX8_mint 18 = .ok (.iconst 1, 1) := by decide +kernel
theorem dX8_mint_19 : decode cX8_mint 19 = .ok (.goto 4, 3) := by decide +kernel
theorem dX8_mint_22 : decode cX8_mint 22 = .ok (.iconst 0, 1) := by decide +kernel
theorem dX8_mint_23 : decode cX8_mint 23 = .ok (.invokestatic 62, 3) := by decide +kernel
theorem dX8_mint_26 : decode cX8_mint 26 = .ok (.aload_n 0, 1) := by decide +kernel
theorem dX8_mint_27 : decode cX8_mint 27 = .ok (.getfield 12, 3) := by decide +kernel
theorem dX8_mint_30 : decode cX8_mint 30 = .ok (.getfield 66, 3) := by decide +kernel
theorem dX8_mint_33 : decode cX8_mint 33 = .ok (.getfield 70, 3) := by decide +kernel
theorem dX8_mint_36 : decode cX8_mint 36 = .ok (.bipush 28, 2) := by decide +kernel
theorem dX8_mint_38 : decode cX8_mint 38 = .ok (.if_icmp .ge 7, 3) := by decide +kernel
theorem dX8_mint_41 : decode cX8_mint 41 = .ok (.iconst 1, 1) := by decide +kernel
theorem dX8_mint_42 : decode cX8_mint 42 = .ok (.goto 4, 3) := by decide +kernel
theorem dX8_mint_45 : decode cX8_mint 45 = .ok (.iconst 0, 1) := by decide +kernel
theorem dX8_mint_46 : decode cX8_mint 46 = .ok (.invokestatic 76, 3) := by decide +kernel
theorem dX8_mint_49 : decode cX8_mint 49 = .ok (.aload_n 0, 1) := by decide +kernel
theorem dX8_mint_50 : decode cX8_mint 50 = .ok (.getfield 12, 3) := by decide +kernel
theorem dX8_mint_53 : decode cX8_mint 53 = .ok (.getfield 66, 3) := by decide +kernel
theorem dX8_mint_56 : decode cX8_mint 56 = .ok (.iload_n 1, 1) := by decide +kernel
theorem dX8_mint_57 : decode cX8_mint 57 = .ok (.iload_n 2, 1) := by decide +kernel
theorem dX8_mint_58 : decode cX8_mint 58 = .ok (.invokevirtual 79, 3) := by decide +kernel
theorem dX8_mint_61 : decode cX8_mint 61 = .ok (.istore 4, 2) := by decide +kernel
theorem dX8_mint_63 : decode cX8_mint 63 = .ok (.aload_n 0, 1) := by decide +kernel
theorem dX8_mint_64 : decode cX8_mint 64 = .ok (.getfield 12, 3) := by decide +kernel
theorem dX8_mint_67 : decode cX8_mint 67 = .ok (.getfield 66, 3) := by decide +kernel
theorem dX8_mint_70 : decode cX8_mint 70 = .ok (.iload 4, 2) := by decide +kernel
theorem dX8_mint_72 : decode cX8_mint 72 = .ok (.iconst 0, 1) := by decide +kernel
theorem dX8_mint_73 : decode cX8_mint 73 = .ok (.iload_n 3, 1) := by decide +kernel
theorem dX8_mint_74 : decode cX8_mint 74 = .ok (.iconst (-1), 1) := by decide +kernel
theorem dX8_mint_75 : decode cX8_mint 75 = .ok (.invokevirtual 83, 3) := by decide +kernel
theorem dX8_mint_78 : decode cX8_mint 78 = .ok (.iload 4, 2) := by decide +kernel
theorem dX8_mint_80 : decode cX8_mint 80 = .ok (.ireturn, 1) := by decide +kernel
set_option maxRecDepth 20000 in
theorem ggX8_mint_X8_needSubject : GoodIn wsX8_mint wsX8_needSubject := goodIn_ca (goodIn_r _ [7, 8, 9, 6, 10, 11, 12] (by decide +kernel) (by decide +kernel)) (goodIn_sub (fun _ h => List.mem_cons_of_mem _ (List.mem_append_left _ (List.mem_append_left _ (List.mem_append_left _ (List.mem_append_right _ h))))) (by decide +kernel))
set_option maxRecDepth 20000 in
theorem gX8_mint_X8_needSubject : GoodIn wsX8_mint (va_wsS RX8 55 yX8_needSubject wsX8_needSubject) := goodIn_app (goodIn_of _ (by decide +kernel)) ggX8_mint_X8_needSubject
set_option maxRecDepth 20000 in
theorem ggX8_mint_X8_needObject : GoodIn wsX8_mint wsX8_needObject := goodIn_ca (goodIn_r _ [15, 8, 9, 6, 10, 11, 12] (by decide +kernel) (by decide +kernel)) (goodIn_sub (fun _ h => List.mem_cons_of_mem _ (List.mem_append_left _ (List.mem_append_left _ (List.mem_append_left _ (List.mem_append_right _ h))))) (by decide +kernel))
set_option maxRecDepth 20000 in
theorem gX8_mint_X8_needObject : GoodIn wsX8_mint (va_wsS RX8 59 yX8_needObject wsX8_needObject) := goodIn_app (goodIn_of _ (by decide +kernel)) ggX8_mint_X8_needObject
set_option maxRecDepth 20000 in
theorem ggX8_mint_X8_needArgument : GoodIn wsX8_mint wsX8_needArgument := goodIn_ca (goodIn_r _ [18, 19, 20] (by decide +kernel) (by decide +kernel)) (goodIn_sub (fun _ h => List.mem_cons_of_mem _ (List.mem_append_left _ (List.mem_append_left _ (List.mem_append_right _ h)))) (by decide +kernel))
set_option maxRecDepth 20000 in
theorem gX8_mint_X8_needArgument : GoodIn wsX8_mint (va_wsS RX8 62 yX8_needArgument wsX8_needArgument) := goodIn_app (goodIn_of _ (by decide +kernel)) ggX8_mint_X8_needArgument
set_option maxRecDepth 20000 in
theorem ggX8_mint_X8_needState : GoodIn wsX8_mint wsX8_needState := goodIn_ca (goodIn_r _ [23, 24, 25] (by decide +kernel) (by decide +kernel)) (goodIn_sub (fun _ h => List.mem_cons_of_mem _ (List.mem_append_left _ (List.mem_append_right _ h))) (by decide +kernel))
set_option maxRecDepth 20000 in
theorem gX8_mint_X8_needState : GoodIn wsX8_mint (va_wsS RX8 76 yX8_needState wsX8_needState) := goodIn_app (goodIn_of _ (by decide +kernel)) ggX8_mint_X8_needState
set_option maxRecDepth 20000 in
theorem ggX8_mint_X7_makeRoot : GoodIn wsX8_mint wsX7_makeRoot := goodIn_ca (goodIn_r _ [30, 31, 32, 33, 34, 35, 36, 37, 29, 38, 39, 40, 41, 42, 66, 67, 68, 69, 70, 71, 72, 73, 74, 75, 76, 77] (by decide +kernel) (by decide +kernel)) (goodIn_sub (fun _ h => List.mem_cons_of_mem _ (List.mem_append_right _ h)) (by decide +kernel))
set_option maxRecDepth 20000 in
theorem gX8_mint_X7_makeRoot : GoodIn wsX8_mint (wsV RX8 79 RX7 yX7_makeRoot wsX7_makeRoot) := goodIn_app (goodIn_of _ (by decide +kernel)) ggX8_mint_X7_makeRoot
set_option maxRecDepth 20000 in
theorem ggX8_mint_X7_addCaveat : GoodIn wsX8_mint wsX7_addCaveat := goodIn_ca (goodIn_r _ [46, 42, 47, 48, 49, 66, 67, 68, 69, 70, 71, 72, 73, 74, 75, 76, 77] (by decide +kernel) (by decide +kernel)) (goodIn_sub (fun _ h => List.mem_cons_of_mem _ (List.mem_append_right _ h)) (by decide +kernel))
set_option maxRecDepth 20000 in
theorem gX8_mint_X7_addCaveat : GoodIn wsX8_mint (wsV RX8 83 RX7 yX7_addCaveat wsX7_addCaveat) := goodIn_app (goodIn_of _ (by decide +kernel)) ggX8_mint_X7_addCaveat
def rm_X8_mint : Room := { frames := 10, cells := 4, slots := 24, locals := 240 }
set_option maxHeartbeats 4000000 in
set_option maxRecDepth 100000 in
theorem c_X8_mint (l : Launch) (hfl : l.stackTraces = false) {nb : Nat} {G : zG} {ad : Nat → Nat} {σ σ' : zs} {a1 a2 a3 : Int32} {ex : Nat} {r : Int32} (hf : f_X8_mint σ a1 a2 a3 = some (ex, r, σ')) : zXi l yX8_mint wsX8_mint rm_X8_mint G (zS nb) ad σ [.ref (ad 0), .int a1, .int a2, .int a3] ex r σ' := by
  intro sz
  refine vx_ofW (cc := cX8_mint) (maxL := 5) (ret := (some .int)) (by decide) rfl ?_
  intro p e s m args below meth c s₁ B hml hno hv
  obtain ⟨rfl, hsz, hv⟩ := hv
  have hx := B.exec
  have hb := B.bytes
  have hr := B.returns
  have hts := atoms_spec (ws := wsX8_mint) B.pre
  have hown : s.vm.findClass RX8 = some m.cls := findClass_of_methodNamed B.named
  have hlocks := B.notSynchronized
  subst hsz
  have B := zB_start hv
  have hinRX6 : ∀ w ∈ wsX60, w ∈ wsX8_mint := by decide +kernel
  have hinRX7 : ∀ w ∈ wsX70, w ∈ wsX8_mint := by decide +kernel
  have hinRX8 : ∀ w ∈ wsX80, w ∈ wsX8_mint := by decide +kernel
  have hl := lv_entry ([.ref (ad 0), .int a1, .int a2, .int a3]) (n := 5) (Nat.le_of_ble_eq_true rfl)
  rw [lg_entry_eq]
  generalize (lg_sl ([.ref (ad 0), .int a1, .int a2, .int a3]) ++ List.replicate (5 - (lg_sl ([.ref (ad 0), .int a1, .int a2, .int a3])).length) Slot.unset).toArray = ls at hl ⊢
  have hl : lv_has ls 5 [(0, .ref (ad 0)), (1, .int a1), (2, .int a2), (3, .int a3)] := hl
  generalize hAe : zA ad (zS nb).length s.heap.size = A at B ⊢
  have L46 : ∀ (σ : zs) (v1 : Int32) (v2 : Int32) (v3 : Int32) (s0 : Int32) (H : Heap) (locs : List Loc) (ls : Array Slot), f_X8_mint_46 σ v1 v2 v3 s0 = some (ex, r, σ') → zB A s G (zS nb) ad σ H locs → lv_has ls 5 [(0, .ref (ad 0)), (1, .int v1), (2, .int v2), (3, .int v3)] → W p l e (headSpec wsX8_mint rm_X8_mint).room s m ([.ref (ad 0), .int a1, .int a2, .int a3] : List Value).toArray below meth c H locs 3 18 (vx_MQ below (va_Qi (fun r' (_ : Unit) => ex = 0 ∧ r' = r) (zPost G (zS nb) ad σ') A) (zXC G (zS nb) ad ex σ' A) ([.ref (ad 0), .int a1, .int a2, .int a3] : List Value).toArray s 4 24 A) (F0 m 46 ls [.int s0]) := by
    intro σ v1 v2 v3 s0 H locs ls hf B hl
    unfold f_X8_mint_46 at hf
    obtain ⟨u10, r11, σ12, hu10, hf⟩ := zx_some hf
    refine z_xv B (vx_runS (As := [.int s0]) (rest := []) ⟨hx, hb, hml, hown, hts⟩ (c_X8_needState l hfl hu10 _) (va_cwS 1 hts gX8_mint_X8_needState rfl rfl rfl (by decide +kernel) ⟨Nat.le_of_ble_eq_true rfl, Nat.le_of_ble_eq_true rfl⟩) (z_preS B) rfl rfl hl.1 rfl (lv_room (Nat.le_of_ble_eq_true rfl)) dX8_mint_46 ⟨Nat.le_of_ble_eq_true rfl, Nat.le_of_ble_eq_true rfl⟩) (fun H locs ce q9 h0 B k1 k2 k3 => ?_) (fun H locs h0 B => ?_)
    · exact z_xout hno hlocks (zx_no hf h0) h0 B k1 k2 k3 (Nat.le_of_ble_eq_true rfl) (Nat.le_of_ble_eq_true rfl)
    have hf := zx_ok hf h0
    refine lv_aload_n hx hb dX8_mint_49 rfl (lv_at hl 0 rfl) ?_
    refine z_getr hx hb hts hinRX8 hown B 0 0 1 rfl rfl rfl (by decide) (by decide +kernel) rfl dX8_mint_50 ?_
    refine z_getr hx hb hts hinRX6 hown B 1 0 2 rfl rfl rfl (by decide) (by decide +kernel) rfl dX8_mint_53 ?_
    refine lv_iload_n hx hb dX8_mint_56 rfl (lv_at hl 1 rfl) ?_
    refine lv_iload_n hx hb dX8_mint_57 rfl (lv_at hl 2 rfl) ?_
    obtain ⟨r14, σ15, hu13, hf⟩ := zb_some hf
    refine z_i B (va_runV (As := [.int v1, .int v2]) (rest := []) ⟨hx, hb, hml, hown, hts⟩ (c_X7_makeRoot l hu13 _) (cwV 2 hts gX8_mint_X7_makeRoot rfl rfl rfl (by decide +kernel) ⟨Nat.le_of_ble_eq_true rfl, Nat.le_of_ble_eq_true rfl⟩) (z_preV B rfl rfl) rfl rfl hl.1 rfl (lv_room (Nat.le_of_ble_eq_true rfl)) dX8_mint_58 ⟨Nat.le_of_ble_eq_true rfl, Nat.le_of_ble_eq_true rfl⟩) (fun H locs B => ?_)
    refine lv_istore (lv' := [(4, .int r14), (0, .ref (ad 0)), (1, .int v1), (2, .int v2), (3, .int v3)]) hx hb dX8_mint_61 hl (by decide) rfl (fun ls hl => ?_)
    refine lv_aload_n hx hb dX8_mint_63 rfl (lv_at hl 1 rfl) ?_
    refine z_getr hx hb hts hinRX8 hown B 0 0 1 rfl rfl rfl (by decide) (by decide +kernel) rfl dX8_mint_64 ?_
    refine z_getr hx hb hts hinRX6 hown B 1 0 2 rfl rfl rfl (by decide) (by decide +kernel) rfl dX8_mint_67 ?_
    refine lv_iload hx hb dX8_mint_70 (lv_at hl 0 rfl) ?_
    refine lv_iconst (v := (0 : Int32)) hx hb dX8_mint_72 (by decide) ?_
    refine lv_iload_n hx hb dX8_mint_73 rfl (lv_at hl 4 rfl) ?_
    refine lv_iconst (v := (-1 : Int32)) hx hb dX8_mint_74 (by decide) ?_
    obtain ⟨r17, σ18, hu16, hf⟩ := zb_some hf
    refine z_v B (va_runV (As := [.int r14, .int (0 : Int32), .int v3, .int (-1 : Int32)]) (rest := []) ⟨hx, hb, hml, hown, hts⟩ (c_X7_addCaveat l hu16 _) (cwV 4 hts gX8_mint_X7_addCaveat rfl rfl rfl (by decide +kernel) ⟨Nat.le_of_ble_eq_true rfl, Nat.le_of_ble_eq_true rfl⟩) (z_preV B rfl rfl) rfl rfl hl.1 rfl (lv_room (Nat.le_of_ble_eq_true rfl)) dX8_mint_75 ⟨Nat.le_of_ble_eq_true rfl, Nat.le_of_ble_eq_true rfl⟩) (fun H locs B => ?_)
    refine lv_iload hx hb dX8_mint_78 (lv_at hl 0 rfl) ?_
    refine W.widen (k := 4) (n := 24) (Nat.le_of_ble_eq_true rfl) (Nat.le_of_ble_eq_true rfl) ?_
    exact z_xiret hx hb hr rfl hlocks B hf dX8_mint_80
  have L23 : ∀ (σ : zs) (v1 : Int32) (v2 : Int32) (v3 : Int32) (s0 : Int32) (H : Heap) (locs : List Loc) (ls : Array Slot), f_X8_mint_23 σ v1 v2 v3 s0 = some (ex, r, σ') → zB A s G (zS nb) ad σ H locs → lv_has ls 5 [(0, .ref (ad 0)), (1, .int v1), (2, .int v2), (3, .int v3)] → W p l e (headSpec wsX8_mint rm_X8_mint).room s m ([.ref (ad 0), .int a1, .int a2, .int a3] : List Value).toArray below meth c H locs 2 12 (vx_MQ below (va_Qi (fun r' (_ : Unit) => ex = 0 ∧ r' = r) (zPost G (zS nb) ad σ') A) (zXC G (zS nb) ad ex σ' A) ([.ref (ad 0), .int a1, .int a2, .int a3] : List Value).toArray s 4 24 A) (F0 m 23 ls [.int s0]) := by
    intro σ v1 v2 v3 s0 H locs ls hf B hl
    unfold f_X8_mint_23 at hf
    obtain ⟨u7, r8, σ9, hu7, hf⟩ := zx_some hf
    refine z_xv B (vx_runS (As := [.int s0]) (rest := []) ⟨hx, hb, hml, hown, hts⟩ (c_X8_needArgument l hfl hu7 _) (va_cwS 1 hts gX8_mint_X8_needArgument rfl rfl rfl (by decide +kernel) ⟨Nat.le_of_ble_eq_true rfl, Nat.le_of_ble_eq_true rfl⟩) (z_preS B) rfl rfl hl.1 rfl (lv_room (Nat.le_of_ble_eq_true rfl)) dX8_mint_23 ⟨Nat.le_of_ble_eq_true rfl, Nat.le_of_ble_eq_true rfl⟩) (fun H locs ce q9 h0 B k1 k2 k3 => ?_) (fun H locs h0 B => ?_)
    · exact z_xout hno hlocks (zx_no hf h0) h0 B k1 k2 k3 (Nat.le_of_ble_eq_true rfl) (Nat.le_of_ble_eq_true rfl)
    have hf := zx_ok hf h0
    refine lv_aload_n hx hb dX8_mint_26 rfl (lv_at hl 0 rfl) ?_
    refine z_getr hx hb hts hinRX8 hown B 0 0 1 rfl rfl rfl (by decide) (by decide +kernel) rfl dX8_mint_27 ?_
    refine z_getr hx hb hts hinRX6 hown B 1 0 2 rfl rfl rfl (by decide) (by decide +kernel) rfl dX8_mint_30 ?_
    refine z_geti hx hb hts hinRX7 hown B 2 0 rfl rfl rfl (by decide) (by decide +kernel) rfl dX8_mint_33 ?_
    refine lv_bipush (v := (28 : Int32)) hx hb dX8_mint_36 (by decide) ?_
    refine lv_icmp_ge (tgt := 45) hx hb dX8_mint_38 (by decide) (fun hc => ?_) (fun hc => ?_)
    · have hf := zif_t hc hf
      refine lv_iconst (v := (0 : Int32)) hx hb dX8_mint_45 (by decide) ?_
      exact L46  _ _ _ _ _ _ _ _ hf B (lv_sub hl [0, 1, 2, 3] rfl)
    · have hf := zif_f hc hf
      refine lv_iconst (v := (1 : Int32)) hx hb dX8_mint_41 (by decide) ?_
      refine lv_goto (tgt := 46) hx hb dX8_mint_42 (by decide) ?_
      exact L46  _ _ _ _ _ _ _ _ hf B (lv_sub hl [0, 1, 2, 3] rfl)
  unfold f_X8_mint at hf
  refine lv_iload_n hx hb dX8_mint_0 rfl (lv_at hl 1 rfl) ?_
  obtain ⟨u1, r2, σ3, hu1, hf⟩ := zx_some hf
  refine z_xv B (vx_runS (As := [.int a1]) (rest := []) ⟨hx, hb, hml, hown, hts⟩ (c_X8_needSubject l hfl hu1 _) (va_cwS 1 hts gX8_mint_X8_needSubject rfl rfl rfl (by decide +kernel) ⟨Nat.le_of_ble_eq_true rfl, Nat.le_of_ble_eq_true rfl⟩) (z_preS B) rfl rfl hl.1 rfl (lv_room (Nat.le_of_ble_eq_true rfl)) dX8_mint_1 ⟨Nat.le_of_ble_eq_true rfl, Nat.le_of_ble_eq_true rfl⟩) (fun H locs ce q9 h0 B k1 k2 k3 => ?_) (fun H locs h0 B => ?_)
  · exact z_xout hno hlocks (zx_no hf h0) h0 B k1 k2 k3 (Nat.le_of_ble_eq_true rfl) (Nat.le_of_ble_eq_true rfl)
  have hf := zx_ok hf h0
  refine lv_iload_n hx hb dX8_mint_4 rfl (lv_at hl 2 rfl) ?_
  obtain ⟨u4, r5, σ6, hu4, hf⟩ := zx_some hf
  refine z_xv B (vx_runS (As := [.int a2]) (rest := []) ⟨hx, hb, hml, hown, hts⟩ (c_X8_needObject l hfl hu4 _) (va_cwS 1 hts gX8_mint_X8_needObject rfl rfl rfl (by decide +kernel) ⟨Nat.le_of_ble_eq_true rfl, Nat.le_of_ble_eq_true rfl⟩) (z_preS B) rfl rfl hl.1 rfl (lv_room (Nat.le_of_ble_eq_true rfl)) dX8_mint_5 ⟨Nat.le_of_ble_eq_true rfl, Nat.le_of_ble_eq_true rfl⟩) (fun H locs ce q9 h0 B k1 k2 k3 => ?_) (fun H locs h0 B => ?_)
  · exact z_xout hno hlocks (zx_no hf h0) h0 B k1 k2 k3 (Nat.le_of_ble_eq_true rfl) (Nat.le_of_ble_eq_true rfl)
  have hf := zx_ok hf h0
  refine lv_iload_n hx hb dX8_mint_8 rfl (lv_at hl 3 rfl) ?_
  refine lv_if_lt (tgt := 22) hx hb dX8_mint_9 (by decide) (fun hc => ?_) (fun hc => ?_)
  · have hf := zif_t hc hf
    refine lv_iconst (v := (0 : Int32)) hx hb dX8_mint_22 (by decide) ?_
    exact L23  _ _ _ _ _ _ _ _ hf B (lv_sub hl [0, 1, 2, 3] rfl)
  · have hf := zif_f hc hf
    refine lv_iload_n hx hb dX8_mint_12 rfl (lv_at hl 3 rfl) ?_
    refine lv_bipush (v := (15 : Int32)) hx hb dX8_mint_13 (by decide) ?_
    refine lv_icmp_gt (tgt := 22) hx hb dX8_mint_15 (by decide) (fun hc => ?_) (fun hc => ?_)
    · have hf := zif_t hc hf
      refine lv_iconst (v := (0 : Int32)) hx hb dX8_mint_22 (by decide) ?_
      exact L23  _ _ _ _ _ _ _ _ hf B (lv_sub hl [0, 1, 2, 3] rfl)
    · have hf := zif_f hc hf
      refine lv_iconst (v := (1 : Int32)) hx hb dX8_mint_18 (by decide) ?_
      refine lv_goto (tgt := 23) hx hb dX8_mint_19 (by decide) ?_
      exact L23  _ _ _ _ _ _ _ _ hf B (lv_sub hl [0, 1, 2, 3] rfl)
theorem dX8_isTextSign_0 : decode cX8_isTextSign 0 = .ok (.iload_n 0, 1) := by decide +kernel
theorem dX8_isTextSign_1 : decode cX8_isTextSign 1 = .ok (.bipush 33, 2) := by decide +kernel
theorem dX8_isTextSign_3 : decode cX8_isTextSign 3 = .ok (.if_icmp .lt 13, 3) := by decide +kernel
theorem dX8_isTextSign_6 : decode cX8_isTextSign 6 = .ok (.iload_n 0, 1) := by decide +kernel
theorem dX8_isTextSign_7 : decode cX8_isTextSign 7 = .ok (.bipush 126, 2) := by decide +kernel
theorem dX8_isTextSign_9 : decode cX8_isTextSign 9 = .ok (.if_icmp .gt 7, 3) := by decide +kernel
theorem dX8_isTextSign_12 : decode cX8_isTextSign 12 = .ok (.iconst 1, 1) := by decide +kernel
theorem dX8_isTextSign_13 : decode cX8_isTextSign 13 = .ok (.goto 4, 3) := by decide +kernel
theorem dX8_isTextSign_16 : decode cX8_isTextSign 16 = .ok (.iconst 0, 1) := by decide +kernel
theorem dX8_isTextSign_17 : decode cX8_isTextSign 17 = .ok (.ireturn, 1) := by decide +kernel
def rm_X8_isTextSign : Room := { frames := 1, cells := 0, slots := 0, locals := 16 }
set_option maxHeartbeats 4000000 in
set_option maxRecDepth 100000 in
theorem c_X8_isTextSign (l : Launch) {nb : Nat} {G : zG} {ad : Nat → Nat} {σ σ' : zs} {a0 : Int32} {r : Int32} (hf : f_X8_isTextSign σ a0 = some (r, σ')) : zMi l yX8_isTextSign wsX8_isTextSign rm_X8_isTextSign G (zS nb) ad σ [.int a0] r σ' := by
  intro sz
  refine Met.ofW (cc := cX8_isTextSign) (maxL := 1) (ret := (some .boolean)) (by decide) rfl ?_
  intro p e s m args below meth c s₁ B hml hv
  obtain ⟨rfl, hsz, hv⟩ := hv
  have hx := B.exec
  have hb := B.bytes
  have hr := B.returns
  have hts := atoms_spec (ws := wsX8_isTextSign) B.pre
  have hown : s.vm.findClass RX8 = some m.cls := findClass_of_methodNamed B.named
  have hlocks := B.notSynchronized
  subst hsz
  have B := zB_start hv
  have hl := lv_entry ([.int a0]) (n := 1) (Nat.le_of_ble_eq_true rfl)
  rw [lg_entry_eq]
  generalize (lg_sl ([.int a0]) ++ List.replicate (1 - (lg_sl ([.int a0])).length) Slot.unset).toArray = ls at hl ⊢
  have hl : lv_has ls 1 [(0, .int a0)] := hl
  generalize hAe : zA ad (zS nb).length s.heap.size = A at B ⊢
  unfold f_X8_isTextSign at hf
  refine lv_iload_n hx hb dX8_isTextSign_0 rfl (lv_at hl 0 rfl) ?_
  refine lv_bipush (v := (33 : Int32)) hx hb dX8_isTextSign_1 (by decide) ?_
  refine lv_icmp_lt (tgt := 16) hx hb dX8_isTextSign_3 (by decide) (fun hc => ?_) (fun hc => ?_)
  · have hf := zif_t hc hf
    refine lv_iconst (v := (0 : Int32)) hx hb dX8_isTextSign_16 (by decide) ?_
    refine W.widen (k := 0) (n := 0) (Nat.le_of_ble_eq_true rfl) (Nat.le_of_ble_eq_true rfl) ?_
    exact z_iret hx hb hr (by decide) hlocks B hf dX8_isTextSign_17
  · have hf := zif_f hc hf
    refine lv_iload_n hx hb dX8_isTextSign_6 rfl (lv_at hl 0 rfl) ?_
    refine lv_bipush (v := (126 : Int32)) hx hb dX8_isTextSign_7 (by decide) ?_
    refine lv_icmp_gt (tgt := 16) hx hb dX8_isTextSign_9 (by decide) (fun hc => ?_) (fun hc => ?_)
    · have hf := zif_t hc hf
      refine lv_iconst (v := (0 : Int32)) hx hb dX8_isTextSign_16 (by decide) ?_
      refine W.widen (k := 0) (n := 0) (Nat.le_of_ble_eq_true rfl) (Nat.le_of_ble_eq_true rfl) ?_
      exact z_iret hx hb hr (by decide) hlocks B hf dX8_isTextSign_17
    · have hf := zif_f hc hf
      refine lv_iconst (v := (1 : Int32)) hx hb dX8_isTextSign_12 (by decide) ?_
      refine lv_goto (tgt := 17) hx hb dX8_isTextSign_13 (by decide) ?_
      refine W.widen (k := 0) (n := 0) (Nat.le_of_ble_eq_true rfl) (Nat.le_of_ble_eq_true rfl) ?_
      exact z_iret hx hb hr (by decide) hlocks B hf dX8_isTextSign_17
