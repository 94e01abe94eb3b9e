/-! THE START: the words of the tables and the premises that the law begins with, by their places -/
def stF : List Cond := flatC (Jvm.Cond.and given_1 narrow_1)
def stW : List Cond := [.arrayClass .int, .arrayClass .char, .arrayClass .long, .arrayClass .byte, .instantiable RJ0 4, .instantiable RJ4 4, .instantiable RJx00060 6, .instantiable RJx7c733 6, .instantiable RX0 7, .instantiable RX1 8, .instantiable RX2 4, .instantiable RX3 6, .instantiable RX4 4, .instantiable RX5 3, .instantiable RX6 8, .instantiable RX7 12, .instantiable RX8 8, .instantiable RX9 20, .laysStatic Bundle.tN "UNASSIGNED_STACK" Bundle.steD, .laysStatic Bundle.tN "SUPPRESSED_SENTINEL" Bundle.listD, .initialized Bundle.tN, .laysStatic RX8 "GREATEST_NUMBER" "[I", .initialized RX8, .stringRef RX8 363 "there is no such one", .stringRef RX8 370 "the argument is not allowed", .stringRef RX8 375 "the state does not allow this", .stringRef RX8 380 "denied, as the report says", .stringRef RX8 385 "there is no such element", .stringRef RX8 407 "rtsna", .stringRef RX1 46 "rtsna", .laysStatic "java/lang/Integer" "DigitTens" "[B", .laysStatic "java/lang/Integer" "DigitOnes" "[B", .initialized "java/lang/Integer", .laysStatic "java/lang/String" "COMPACT_STRINGS" "Z", .initialized "java/lang/String", .laysStatic "jdk/internal/util/Preconditions" "SIOOBE_FORMATTER" "Ljava/util/function/BiFunction;", .initialized "jdk/internal/util/Preconditions", .fieldLinkNest RX1 58 RX8 "GREATEST_NUMBER" "[I" RX8]
set_option maxRecDepth 20000 in
theorem stW_in : ∀ w ∈ stW, w ∈ lw_tbl := zmem_pos [148, 350, 1883, 404, 1034, 373, 1115, 911, 201, 314, 236, 113, 352, 295, 101, 107, 93, 1501, 510, 512, 73, 755, 59, 528, 569, 588, 776, 833, 1163, 656, 1020, 1018, 86, 382, 70, 712, 81, 754] (by decide +kernel)
set_option maxRecDepth 20000 in
theorem stC_in : ∀ w ∈ zXs.map (fun X => Cond.castable X X), w ∈ lw_tbl := zmem_pos [485, 562, 581, 769, 826] (by decide +kernel)
set_option maxRecDepth 20000 in
theorem stD_in : ∀ w ∈ zDs.map (fun Y => Cond.declares (Bundle.initS Y)), w ∈ lw_tbl := zmem_pos [487, 489, 491] (by decide +kernel)
set_option maxRecDepth 20000 in
theorem stE_in : ∀ w ∈ zNest.map (fun q => Cond.methodLinkNest q.1 q.2.1 q.2.2 RX8), w ∈ lw_tbl := zmem_pos [102, 108, 114, 202, 237, 296, 315, 353, 450, 460, 465, 466, 851, 1447, 1452] (by decide +kernel)
def stN : List Cond := [.isRef (.static Bundle.tN "UNASSIGNED_STACK" Bundle.steD), .isRef (.static Bundle.tN "SUPPRESSED_SENTINEL" Bundle.listD), .isRef (.static "jdk/internal/util/Preconditions" "SIOOBE_FORMATTER" "Ljava/util/function/BiFunction;"), .eq (.static "java/lang/String" "COMPACT_STRINGS" "Z") (.int 1), .arrayOf (.static RX8 "GREATEST_NUMBER" "[I") .int, .eq (.length (.static RX8 "GREATEST_NUMBER" "[I")) (.int (Int32.ofNat 5)), .arrayOf (.static "java/lang/Integer" "DigitOnes" "[B") .byte, .eq (.length (.static "java/lang/Integer" "DigitOnes" "[B")) (.int (Int32.ofNat 100)), .arrayOf (.static "java/lang/Integer" "DigitTens" "[B") .byte, .eq (.length (.static "java/lang/Integer" "DigitTens" "[B")) (.int (Int32.ofNat 100)), .exactly (.string RX8 407) "java/lang/String", .eq (.field (.string RX8 407) "java/lang/String" "coder" "B") (.int 0), .arrayOf (.field (.string RX8 407) "java/lang/String" "value" "[B") .byte, .eq (.length (.field (.string RX8 407) "java/lang/String" "value" "[B")) (.int (Int32.ofNat 5)), .exactly (.string RX1 46) "java/lang/String", .eq (.string RX1 46) (.string RX8 407), .exactly (.string RX8 363) "java/lang/String", .exactly (.string RX8 370) "java/lang/String", .exactly (.string RX8 375) "java/lang/String", .exactly (.string RX8 380) "java/lang/String", .exactly (.string RX8 385) "java/lang/String"]
set_option maxRecDepth 20000 in
theorem stN_in : ∀ w ∈ stN, w ∈ stF := zmem_pos [5, 6, 7, 4, 12, 13, 20, 21, 123, 124, 637, 638, 639, 640, 404, 649, 313, 337, 369, 416, 450] (by decide +kernel)
set_option maxRecDepth 20000 in
theorem stG_in : ∀ w ∈ (List.range 5).map (fun j => Cond.eq (.elem (.static RX8 "GREATEST_NUMBER" "[I") (.int (Int32.ofNat j))) (.int (zGre.getD j 0))), w ∈ stF := zmem_pos [14, 15, 16, 17, 18] (by decide +kernel)
set_option maxRecDepth 20000 in
theorem stL_in : ∀ w ∈ (List.range 5).map (fun j => Cond.eq (.elem (.field (.string RX8 407) "java/lang/String" "value" "[B") (.int (Int32.ofNat j))) (.int (zLet.getD j 0))), w ∈ stF := zmem_pos [641, 642, 643, 644, 645] (by decide +kernel)
set_option maxRecDepth 20000 in
theorem stO_in : ∀ w ∈ (List.range 100).map (fun j => Cond.eq (.elem (.static "java/lang/Integer" "DigitOnes" "[B") (.int (Int32.ofNat j))) (.int (nI (48 + j % 10)))), w ∈ stF := zmem_pos ((List.range 100).map (fun j => 22 + j)) (by decide +kernel)
set_option maxRecDepth 20000 in
theorem stT_in : ∀ w ∈ (List.range 100).map (fun j => Cond.eq (.elem (.static "java/lang/Integer" "DigitTens" "[B") (.int (Int32.ofNat j))) (.int (nI (48 + j / 10)))), w ∈ stF := zmem_pos ((List.range 100).map (fun j => 125 + j)) (by decide +kernel)
def stP : List (String × String) := [("java/lang/IndexOutOfBoundsException", "java/lang/IllegalArgumentException"), ("java/lang/IndexOutOfBoundsException", "java/lang/IllegalStateException"), ("java/lang/IndexOutOfBoundsException", "java/lang/UnsupportedOperationException"), ("java/lang/IndexOutOfBoundsException", "java/util/NoSuchElementException"), ("java/lang/IllegalArgumentException", "java/lang/IndexOutOfBoundsException"), ("java/lang/IllegalArgumentException", "java/lang/IllegalStateException"), ("java/lang/IllegalArgumentException", "java/lang/UnsupportedOperationException"), ("java/lang/IllegalArgumentException", "java/util/NoSuchElementException"), ("java/lang/IllegalStateException", "java/lang/IndexOutOfBoundsException"), ("java/lang/IllegalStateException", "java/lang/IllegalArgumentException"), ("java/lang/IllegalStateException", "java/lang/UnsupportedOperationException"), ("java/lang/IllegalStateException", "java/util/NoSuchElementException"), ("java/lang/UnsupportedOperationException", "java/lang/IndexOutOfBoundsException"), ("java/lang/UnsupportedOperationException", "java/lang/IllegalArgumentException"), ("java/lang/UnsupportedOperationException", "java/lang/IllegalStateException"), ("java/lang/UnsupportedOperationException", "java/util/NoSuchElementException"), ("java/util/NoSuchElementException", "java/lang/IndexOutOfBoundsException"), ("java/util/NoSuchElementException", "java/lang/IllegalArgumentException"), ("java/util/NoSuchElementException", "java/lang/IllegalStateException"), ("java/util/NoSuchElementException", "java/lang/UnsupportedOperationException")]
set_option maxRecDepth 20000 in
theorem stP_in : ∀ w ∈ stP.map (fun q => Cond.not (.castable q.1 q.2)), w ∈ stF := zmem_pos [252, 270, 288, 306, 236, 271, 289, 307, 237, 253, 290, 308, 238, 254, 272, 309, 239, 255, 273, 291] (by decide +kernel)
theorem stP_all : ∀ X ∈ zXs, ∀ Y ∈ zXs, X ≠ Y → (X, Y) ∈ stP := by decide +kernel
theorem st_arr {s : State} {args : Array Value} {ty : FieldType} (h : (Cond.arrayClass ty).before args s = true) (hn : ∀ C, ty ≠ .object C) : ∃ c : ClassId, ArrOfT s c ty ∧ va_RA s c ty := by
  obtain ⟨c, kA, comp, h1, h2, h3⟩ := Cond.arrayClass_spec h
  refine ⟨c, fun N z => ⟨(fun k h => by cases h), kA, h2, comp, h3⟩, ?_⟩
  cases ty with
  | object C => exact absurd rfl (hn C)
  | _ => exact h1
theorem st_K {s : State} {args : Array Value} (hts : ∀ w ∈ lw_tbl, w.before args s = true) : ∃ (D : va_G) (ca : Nat → ClassId), ∀ K : Nat → ClassId, (∀ k, k < 4 → K k = ca k) → va_K D vwCl (zTy (D, K)) s := by
  have hW := fun w h => hts w (stW_in w h)
  obtain ⟨c0, i0, h0⟩ := u_known (C := RJ0) (T := TJ0) (N := 4) (n := 4) hts inJ0 (hW (.instantiable RJ0 4) (List.mem_of_getElem? (i := 4) rfl))
  obtain ⟨c1, i1, h1⟩ := u_known (C := RJ4) (T := TJ4) (N := 4) (n := 4) hts inJ4 (hW (.instantiable RJ4 4) (List.mem_of_getElem? (i := 5) rfl))
  obtain ⟨c2, i2, h2⟩ := u_known (C := RJx00060) (T := TJx00060) (N := 6) (n := 6) hts inJx00060 (hW (.instantiable RJx00060 6) (List.mem_of_getElem? (i := 6) rfl))
  obtain ⟨c3, i3, h3⟩ := u_known (C := RJx7c733) (T := TJx7c733) (N := 6) (n := 6) hts inJx7c733 (hW (.instantiable RJx7c733 6) (List.mem_of_getElem? (i := 7) rfl))
  obtain ⟨c4, i4, h4⟩ := u_known (C := RX0) (T := TX0) (N := 7) (n := 7) hts inX0 (hW (.instantiable RX0 7) (List.mem_of_getElem? (i := 8) rfl))
  obtain ⟨c5, i5, h5⟩ := u_known (C := RX1) (T := TX1) (N := 8) (n := 8) hts inX1 (hW (.instantiable RX1 8) (List.mem_of_getElem? (i := 9) rfl))
  obtain ⟨c6, i6, h6⟩ := u_known (C := RX2) (T := TX2) (N := 4) (n := 4) hts inX2 (hW (.instantiable RX2 4) (List.mem_of_getElem? (i := 10) rfl))
  obtain ⟨c7, i7, h7⟩ := u_known (C := RX3) (T := TX3) (N := 6) (n := 6) hts inX3 (hW (.instantiable RX3 6) (List.mem_of_getElem? (i := 11) rfl))
  obtain ⟨c8, i8, h8⟩ := u_known (C := RX4) (T := TX4) (N := 4) (n := 4) hts inX4 (hW (.instantiable RX4 4) (List.mem_of_getElem? (i := 12) rfl))
  obtain ⟨c9, i9, h9⟩ := u_known (C := RX5) (T := TX5) (N := 3) (n := 3) hts inX5 (hW (.instantiable RX5 3) (List.mem_of_getElem? (i := 13) rfl))
  obtain ⟨c10, i10, h10⟩ := u_known (C := RX6) (T := TX6) (N := 8) (n := 8) hts inX6 (hW (.instantiable RX6 8) (List.mem_of_getElem? (i := 14) rfl))
  obtain ⟨c11, i11, h11⟩ := u_known (C := RX7) (T := TX7) (N := 12) (n := 12) hts inX7 (hW (.instantiable RX7 12) (List.mem_of_getElem? (i := 15) rfl))
  obtain ⟨c12, i12, h12⟩ := u_known (C := RX8) (T := TX8) (N := 8) (n := 8) hts inX8 (hW (.instantiable RX8 8) (List.mem_of_getElem? (i := 16) rfl))
  obtain ⟨c13, i13, h13⟩ := u_known (C := RX9) (T := TX9) (N := 20) (n := 20) hts inX9 (hW (.instantiable RX9 20) (List.mem_of_getElem? (i := 17) rfl))
  obtain ⟨a0, b0, d0⟩ := st_arr (hW (.arrayClass .int) (List.mem_of_getElem? (i := 0) rfl)) (fun C h => by cases h)
  obtain ⟨a1, b1, d1⟩ := st_arr (hW (.arrayClass .char) (List.mem_of_getElem? (i := 1) rfl)) (fun C h => by cases h)
  obtain ⟨a2, b2, d2⟩ := st_arr (hW (.arrayClass .long) (List.mem_of_getElem? (i := 2) rfl)) (fun C h => by cases h)
  obtain ⟨a3, b3, d3⟩ := st_arr (hW (.arrayClass .byte) (List.mem_of_getElem? (i := 3) rfl)) (fun C h => by cases h)
  refine ⟨(fun k => ([c0, c1, c2, c3, c4, c5, c6, c7, c8, c9, c10, c11, c12, c13] : List ClassId).getD k c0, fun k => ([i0, i1, i2, i3, i4, i5, i6, i7, i8, i9, i10, i11, i12, i13] : List (Nat → Nat)).getD k i0), fun k => ([a0, a1, a2, a3] : List ClassId).getD k a0, fun K hK => ⟨fun k q hq => ?_, fun k q hq => ?_⟩⟩
  · match k, hq with
    | 0, hq => cases hq; exact h0
    | 1, hq => cases hq; exact h1
    | 2, hq => cases hq; exact h2
    | 3, hq => cases hq; exact h3
    | 4, hq => cases hq; exact h4
    | 5, hq => cases hq; exact h5
    | 6, hq => cases hq; exact h6
    | 7, hq => cases hq; exact h7
    | 8, hq => cases hq; exact h8
    | 9, hq => cases hq; exact h9
    | 10, hq => cases hq; exact h10
    | 11, hq => cases hq; exact h11
    | 12, hq => cases hq; exact h12
    | 13, hq => cases hq; exact h13
    | k + 14, hq => simp at hq
  · match k, hq with
    | 0, hq => cases hq; show ArrOfT s (K 0) .int ∧ va_RA s (K 0) .int; rw [hK 0 (by decide)]; exact ⟨b0, d0⟩
    | 1, hq => cases hq; show ArrOfT s (K 1) .char ∧ va_RA s (K 1) .char; rw [hK 1 (by decide)]; exact ⟨b1, d1⟩
    | 2, hq => cases hq; show ArrOfT s (K 2) .long ∧ va_RA s (K 2) .long; rw [hK 2 (by decide)]; exact ⟨b2, d2⟩
    | 3, hq => cases hq; show ArrOfT s (K 3) .byte ∧ va_RA s (K 3) .byte; rw [hK 3 (by decide)]; exact ⟨b3, d3⟩
    | k + 4, hq => simp [zTy] at hq
theorem st_T {s : State} {args : Array Value} (hts : ∀ w ∈ lw_tbl, w.before args s = true) (hgv : (Jvm.Cond.and given_1 narrow_1).before args s = true) : ∃ k4 k5 k6 k7 k8 : Nat, ∀ K : Nat → Nat, K 4 = k4 → K 5 = k5 → K 6 = k6 → K 7 = k7 → K 8 = k8 → zT K (fun q => s.heap.size ≤ q) s s.heap := by
  have hW := fun w h => hts w (stW_in w h)
  have hF : ∀ w ∈ stF, w.before args s = true := flat_of_before _ hgv
  have hN := fun w h => hF w (stN_in w h)
  have hA : ∀ a : Nat, a < s.heap.size → ¬ (fun q : Nat => s.heap.size ≤ q) a := fun a ha => Nat.not_le.mpr ha
  obtain ⟨tg, eg, hg⟩ := va_Tof (tm := .static RX8 "GREATEST_NUMBER" "[I") (N := 5) (f := fun j => .int (zGre.getD j 0)) (A := fun q : Nat => s.heap.size ≤ q) (by decide) (hN (.arrayOf (.static RX8 "GREATEST_NUMBER" "[I") .int) (List.mem_of_getElem? (i := 4) rfl)) (va_eqt (hN (.eq (.length (.static RX8 "GREATEST_NUMBER" "[I")) (.int (Int32.ofNat 5))) (List.mem_of_getElem? (i := 5) rfl))) (fun j hj => va_eqt (hF _ (stG_in _ (List.mem_map.mpr ⟨j, List.mem_range.mpr hj, rfl⟩)))) hA
  obtain ⟨to, eo, ho⟩ := va_Tof (tm := .static "java/lang/Integer" "DigitOnes" "[B") (N := 100) (f := fun j => .int (nI (48 + j % 10))) (A := fun q : Nat => s.heap.size ≤ q) (by decide) (hN (.arrayOf (.static "java/lang/Integer" "DigitOnes" "[B") .byte) (List.mem_of_getElem? (i := 6) rfl)) (va_eqt (hN (.eq (.length (.static "java/lang/Integer" "DigitOnes" "[B")) (.int (Int32.ofNat 100))) (List.mem_of_getElem? (i := 7) rfl))) (fun j hj => va_eqt (hF _ (stO_in _ (List.mem_map.mpr ⟨j, List.mem_range.mpr hj, rfl⟩)))) hA
  obtain ⟨tt, et, ht⟩ := va_Tof (tm := .static "java/lang/Integer" "DigitTens" "[B") (N := 100) (f := fun j => .int (nI (48 + j / 10))) (A := fun q : Nat => s.heap.size ≤ q) (by decide) (hN (.arrayOf (.static "java/lang/Integer" "DigitTens" "[B") .byte) (List.mem_of_getElem? (i := 8) rfl)) (va_eqt (hN (.eq (.length (.static "java/lang/Integer" "DigitTens" "[B")) (.int (Int32.ofNat 100))) (List.mem_of_getElem? (i := 9) rfl))) (fun j hj => va_eqt (hF _ (stT_in _ (List.mem_map.mpr ⟨j, List.mem_range.mpr hj, rfl⟩)))) hA
  obtain ⟨aK, aV, hS, hE⟩ := vk_Sof (N := 1) (tm := fun _ => .string RX8 407) (len := [5]) (byt := [zLet]) (A := fun q : Nat => s.heap.size ≤ q) (fun i hi => match i, hi with | 0, _ => by decide | k + 1, h => absurd h (by omega)) (fun i _ => (hN (.exactly (.string RX8 407) "java/lang/String") (List.mem_of_getElem? (i := 10) rfl))) (fun i _ => (hN (.eq (.field (.string RX8 407) "java/lang/String" "coder" "B") (.int 0)) (List.mem_of_getElem? (i := 11) rfl))) (fun i _ => (hN (.arrayOf (.field (.string RX8 407) "java/lang/String" "value" "[B") .byte) (List.mem_of_getElem? (i := 12) rfl))) (fun i hi => match i, hi with | 0, _ => (hN (.eq (.length (.field (.string RX8 407) "java/lang/String" "value" "[B")) (.int (Int32.ofNat 5))) (List.mem_of_getElem? (i := 13) rfl)) | k + 1, h => absurd h (by omega)) (fun i hi j hj => match i, hi with | 0, _ => hF _ (stL_in _ (List.mem_map.mpr ⟨j, List.mem_range.mpr hj, rfl⟩)) | k + 1, h => absurd h (by omega)) (fun i j hi hj hij => absurd (show i = j by omega) hij) hA
  have e407 := hE 0 (by decide)
  obtain ⟨a46, -, -, -, e46, -⟩ := Cond.exactly_spec (hN (.exactly (.string RX1 46) "java/lang/String") (List.mem_of_getElem? (i := 14) rfl))
  have e46b : a46 = aK 0 := by
    have h := (hN (.eq (.string RX1 46) (.string RX8 407)) (List.mem_of_getElem? (i := 15) rfl))
    simpa [Cond.before, Cond.holds, Cond.value, e46, e407] using h
  obtain ⟨x0, -, -, -, y0, -⟩ := Cond.exactly_spec (hN (.exactly (.string RX8 363) "java/lang/String") (List.mem_of_getElem? (i := 16) rfl))
  obtain ⟨x1, -, -, -, y1, -⟩ := Cond.exactly_spec (hN (.exactly (.string RX8 370) "java/lang/String") (List.mem_of_getElem? (i := 17) rfl))
  obtain ⟨x2, -, -, -, y2, -⟩ := Cond.exactly_spec (hN (.exactly (.string RX8 375) "java/lang/String") (List.mem_of_getElem? (i := 18) rfl))
  obtain ⟨x3, -, -, -, y3, -⟩ := Cond.exactly_spec (hN (.exactly (.string RX8 380) "java/lang/String") (List.mem_of_getElem? (i := 19) rfl))
  obtain ⟨x4, -, -, -, y4, -⟩ := Cond.exactly_spec (hN (.exactly (.string RX8 385) "java/lang/String") (List.mem_of_getElem? (i := 20) rfl))
  refine ⟨aK 0, aV 0, tg, tt, to, fun K e4 e5 e6 e7 e8 => ?_⟩
  unfold zT
  rw [e4, e5, e6, e7, e8]
  refine ⟨fun q hq => va_Nw.of rfl (hts _ (stE_in _ (List.mem_map.mpr ⟨q, hq, rfl⟩))), vx_Zqof (hW (.laysStatic Bundle.tN "UNASSIGNED_STACK" Bundle.steD) (List.mem_of_getElem? (i := 18) rfl)) (hW (.initialized Bundle.tN) (List.mem_of_getElem? (i := 20) rfl)) (hN (.isRef (.static Bundle.tN "UNASSIGNED_STACK" Bundle.steD)) (List.mem_of_getElem? (i := 0) rfl)) hA, vx_Zqof (hW (.laysStatic Bundle.tN "SUPPRESSED_SENTINEL" Bundle.listD) (List.mem_of_getElem? (i := 19) rfl)) (hW (.initialized Bundle.tN) (List.mem_of_getElem? (i := 20) rfl)) (hN (.isRef (.static Bundle.tN "SUPPRESSED_SENTINEL" Bundle.listD)) (List.mem_of_getElem? (i := 1) rfl)) hA, ⟨va_Zof (hW (.laysStatic RX8 "GREATEST_NUMBER" "[I") (List.mem_of_getElem? (i := 21) rfl)) (hW (.initialized RX8) (List.mem_of_getElem? (i := 22) rfl)) eg hA, hg⟩, ⟨⟨fun i hi => ?_, fun i j hi hj _ => by omega⟩, vk_R.of (hW (.stringRef RX8 407 "rtsna") (List.mem_of_getElem? (i := 28) rfl)) e407, vk_R.of (hW (.stringRef RX1 46 "rtsna") (List.mem_of_getElem? (i := 29) rfl)) (e46b ▸ e46)⟩, ⟨⟨x0, vk_R.of (hW (.stringRef RX8 363 "there is no such one") (List.mem_of_getElem? (i := 23) rfl)) y0⟩, ⟨x1, vk_R.of (hW (.stringRef RX8 370 "the argument is not allowed") (List.mem_of_getElem? (i := 24) rfl)) y1⟩, ⟨x2, vk_R.of (hW (.stringRef RX8 375 "the state does not allow this") (List.mem_of_getElem? (i := 25) rfl)) y2⟩, ⟨x3, vk_R.of (hW (.stringRef RX8 380 "denied, as the report says") (List.mem_of_getElem? (i := 26) rfl)) y3⟩, ⟨x4, vk_R.of (hW (.stringRef RX8 385 "there is no such element") (List.mem_of_getElem? (i := 27) rfl)) y4⟩⟩, fun X hX => va_Nw.of rfl (hts _ (stC_in _ (List.mem_map.mpr ⟨X, hX, rfl⟩))), fun X hX Y hY hn => va_Nc.of (hF _ (stP_in _ (List.mem_map.mpr ⟨(X, Y), stP_all X hX Y hY hn, rfl⟩))), fun Y hY => va_Nw.of rfl (hts _ (stD_in _ (List.mem_map.mpr ⟨Y, hY, rfl⟩))), ⟨va_Zof (hW (.laysStatic "java/lang/Integer" "DigitTens" "[B") (List.mem_of_getElem? (i := 30) rfl)) (hW (.initialized "java/lang/Integer") (List.mem_of_getElem? (i := 32) rfl)) et hA, ht⟩, ⟨va_Zof (hW (.laysStatic "java/lang/Integer" "DigitOnes" "[B") (List.mem_of_getElem? (i := 31) rfl)) (hW (.initialized "java/lang/Integer") (List.mem_of_getElem? (i := 32) rfl)) eo hA, ho⟩, va_Zof (hW (.laysStatic "java/lang/String" "COMPACT_STRINGS" "Z") (List.mem_of_getElem? (i := 33) rfl)) (hW (.initialized "java/lang/String") (List.mem_of_getElem? (i := 34) rfl)) (va_eqi (hN (.eq (.static "java/lang/String" "COMPACT_STRINGS" "Z") (.int 1)) (List.mem_of_getElem? (i := 3) rfl))) hA, va_Zqof (hW (.laysStatic "jdk/internal/util/Preconditions" "SIOOBE_FORMATTER" "Ljava/util/function/BiFunction;") (List.mem_of_getElem? (i := 35) rfl)) (hW (.initialized "jdk/internal/util/Preconditions") (List.mem_of_getElem? (i := 36) rfl)) (hN (.isRef (.static "jdk/internal/util/Preconditions" "SIOOBE_FORMATTER" "Ljava/util/function/BiFunction;")) (List.mem_of_getElem? (i := 2) rfl)) hA, va_Nw.of rfl (hW (.fieldLinkNest RX1 58 RX8 "GREATEST_NUMBER" "[I" RX8) (List.mem_of_getElem? (i := 37) rfl))⟩
  have h0 : i = 0 := by omega
  subst h0
  exact hS.1 0 (by decide)
