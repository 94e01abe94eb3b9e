/-! MY LIBRARY: one world for all methods; its cells are named by places, its numbers are a function of place and slot -/
abbrev zh : Type := (Nat × Nat) ⊕ (Nat × List (Option Nat))
abbrev zG : Type := va_G × (Nat → ClassId)
abbrev zs : Type := Nat → Nat → Int32
def zF (ad : Nat → Nat) (f : Nat → Int32) : Nat → List (Option Nat) → List Value
  | _, [] => []
  | i, none :: l => .int (f i) :: zF ad f (i + 1) l
  | i, some r :: l => .ref (ad r) :: zF ad f (i + 1) l
def zV (ad : Nat → Nat) (f : Nat → Int32) (j : Nat) : Option Nat → Value
  | none => .int (f j)
  | some r => .ref (ad r)
theorem zF_get (ad : Nat → Nat) (f : Nat → Int32) : ∀ (l : List (Option Nat)) (i j : Nat), (zF ad f i l)[j]? = (l[j]?).map (zV ad f (i + j))
  | [], i, j => by simp [zF]
  | none :: l, i, 0 => by simp [zF, zV]
  | some r :: l, i, 0 => by simp [zF, zV]
  | none :: l, i, j + 1 => by
    have h := zF_get ad f l (i + 1) j
    simp only [zF, List.getElem?_cons_succ, h]
    rw [show i + 1 + j = i + (j + 1) by omega]
  | some r :: l, i, j + 1 => by
    have h := zF_get ad f l (i + 1) j
    simp only [zF, List.getElem?_cons_succ, h]
    rw [show i + 1 + j = i + (j + 1) by omega]
theorem zF_len (ad : Nat → Nat) (f : Nat → Int32) : ∀ (l : List (Option Nat)) (i : Nat), (zF ad f i l).length = l.length
  | [], i => rfl
  | none :: l, i => by simp [zF, zF_len ad f l]
  | some r :: l, i => by simp [zF, zF_len ad f l]
def zQ (t n : Nat) (f : Nat → Int32) : vp_A := (n, if t = 2 then .inr (.inl (fun j => (f j).toInt64)) else .inl f)
def zE (G : zG) (ad : Nat → Nat) (σ : zs) (k : Nat) : zh → va_E
  | .inl (t, n) => .inl (G.2 t, zQ t n (σ k))
  | .inr (ci, fs) => .inr (ci, zF ad (σ k) 0 fs)
def zW (G : zG) (S : List zh) (ad : Nat → Nat) (σ : zs) : va_W := S.mapIdx (fun k x => (ad k, zE G ad σ k x))
theorem zW_get (G : zG) (S : List zh) (ad : Nat → Nat) (σ : zs) (k : Nat) : (zW G S ad σ)[k]? = (S[k]?).map (fun x => (ad k, zE G ad σ k x)) := by
  simp [zW, List.getElem?_mapIdx]
def zR (σ : zs) (k : Nat) (f : Nat → Int32) : zs := fun a => if a = k then f else σ a
def zp (σ : zs) (k j : Nat) (v : Int32) : zs := zR σ k (upd (σ k) j v)
theorem zR_self (σ : zs) (k : Nat) (f : Nat → Int32) : zR σ k f k = f := by simp [zR]
theorem zR_ne (σ : zs) {k a : Nat} (f : Nat → Int32) (h : a ≠ k) : zR σ k f a = σ a := by simp [zR, h]
theorem zE_ne (G : zG) (ad : Nat → Nat) (σ : zs) {k a : Nat} (f : Nat → Int32) (h : a ≠ k) (x : zh) : zE G ad (zR σ k f) a x = zE G ad σ a x := by
  rcases x with ⟨t, n⟩ | ⟨ci, fs⟩ <;> simp [zE, zR_ne σ f h]
theorem zW_row (G : zG) {S : List zh} (ad : Nat → Nat) (σ : zs) {k : Nat} {x : zh} (hk : S[k]? = some x) (f : Nat → Int32) {e : va_E} (he : e = zE G ad (zR σ k f) k x) : (zW G S ad σ).set k (ad k, e) = zW G S ad (zR σ k f) := by
  subst he
  have hl : k < S.length := (List.getElem?_eq_some_iff.mp hk).1
  have hl2 : k < (zW G S ad σ).length := by simp [zW, hl]
  apply List.ext_getElem?
  intro j
  by_cases hj : j = k
  · subst hj
    rw [List.getElem?_set_self hl2, zW_get, hk]
    rfl
  · rw [List.getElem?_set_ne (Ne.symm hj), zW_get, zW_get]
    cases S[j]? with
    | none => rfl
    | some y => simp [zE_ne G ad σ f hj]
theorem zF_upd (ad : Nat → Nat) (f : Nat → Int32) (l : List (Option Nat)) (k : Nat) (v : Int32) (hk : l[k]? = some none) : (zF ad f 0 l).set k (.int v) = zF ad (upd f k v) 0 l := by
  have hl : k < l.length := (List.getElem?_eq_some_iff.mp hk).1
  apply List.ext_getElem?
  intro j
  by_cases hj : j = k
  · subst hj
    rw [List.getElem?_set_self (by rw [zF_len]; exact hl), zF_get, hk]
    simp [zV, upd]
  · rw [List.getElem?_set_ne (Ne.symm hj), zF_get, zF_get]
    cases l[j]? with
    | none => rfl
    | some o => cases o <;> simp [zV, upd, hj]
def zTy (G : zG) : List (ClassId × FieldType) := [(G.2 0, .int), (G.2 1, .char), (G.2 2, .long), (G.2 3, .byte)]
/-- the addresses do not depend on the numbers -/
theorem zD_any {G : zG} {S : List zh} {ad : Nat → Nat} {σ τ : zs} {A : Nat → Prop} (h : va_D A (zW G S ad σ)) : va_D A (zW G S ad τ) := by
  have key : ∀ (k : Nat) (q : Nat × va_E), (zW G S ad τ)[k]? = some q → ∃ e, (zW G S ad σ)[k]? = some (q.1, e) := by
    intro k q hq
    rw [zW_get] at hq ⊢
    cases hS : S[k]? with
    | none => rw [hS] at hq; cases hq
    | some x => rw [hS] at hq; cases hq; exact ⟨_, rfl⟩
  refine ⟨fun i j p q hi hj hpq => ?_, fun k q hk => ?_⟩
  · obtain ⟨e1, h1⟩ := key i p hi
    obtain ⟨e2, h2⟩ := key j q hj
    exact h.1 i j _ _ h1 h2 hpq
  · obtain ⟨e1, h1⟩ := key k q hk
    exact h.2 k (q.1, e1) h1
/-- the cells that a method may change: the world's, and new ones -/
def zA (ad : Nat → Nat) (N sz : Nat) : Nat → Prop := fun q => (∃ k, k < N ∧ q = ad k) ∨ sz ≤ q
theorem zA_in {G : zG} {S : List zh} {ad : Nat → Nat} {σ : zs} {A : Nat → Prop} (h : va_D A (zW G S ad σ)) {k : Nat} (hk : k < S.length) : A (ad k) := by
  have h1 : (zW G S ad σ)[k]? = some (ad k, zE G ad σ k S[k]) := by rw [zW_get, List.getElem?_eq_getElem hk]; rfl
  exact h.2 k _ h1
theorem zD_self {G : zG} {S : List zh} {ad : Nat → Nat} {σ : zs} {A : Nat → Prop} {sz : Nat} (h : va_D A (zW G S ad σ)) : va_D (zA ad S.length sz) (zW G S ad σ) := by
  refine ⟨h.1, fun k q hk => ?_⟩
  rw [zW_get] at hk
  cases hS : S[k]? with
  | none => rw [hS] at hk; cases hk
  | some x => rw [hS] at hk; cases hk; exact Or.inl ⟨k, (List.getElem?_eq_some_iff.mp hS).1, rfl⟩
/-- what stays outside of the world: two statics of Throwable, the table of greatest numbers, the texts, the digits -/
def zXs : List String := ["java/lang/IndexOutOfBoundsException", "java/lang/IllegalArgumentException", "java/lang/IllegalStateException", "java/lang/UnsupportedOperationException", "java/util/NoSuchElementException"]
def zDs : List String := ["java/lang/RuntimeException", "java/lang/Exception", Bundle.tN]
def zNest : List (String × Nat × MethodName) := [(RX8, 11, yX6_init), (RX6, 11, yX7_init), (RX7, 44, yX3_init), (RX6, 20, yX0_init), (RX6, 27, yX2_init), (RX8, 25, yX5_init), (RX8, 32, yX1_init), (RX8, 39, yX4_init), (RX7, 53, yX8_copyRow), (RX0, 31, yX8_copyRow), (RX2, 15, yX8_copyRow), (RX6, 52, yX8_copyRow), (RX7, 71, yX8_hasBit), (RX0, 38, yX8_hasBit), (RX4, 76, yX8_hasBit)]
def zLet : List Int32 := [114, 116, 115, 110, 97]
def zGre : List Int32 := [15, 999, 5, 999, 999]
/-- the letters' places: text 4, its bytes 5; the table 6; the digits 7 and 8 (places 0 to 3 are classes of arrays) -/
def zT (K : Nat → Nat) (A : Nat → Prop) (U : State) (H : Heap) : Prop :=
  (∀ q ∈ zNest, va_Nw (.methodLinkNest q.1 q.2.1 q.2.2 RX8) U) ∧
  vx_Zq Bundle.tN "UNASSIGNED_STACK" Bundle.steD A U H ∧ vx_Zq Bundle.tN "SUPPRESSED_SENTINEL" Bundle.listD A U H ∧
  (va_Z RX8 "GREATEST_NUMBER" "[I" (.ref (K 6)) A U H ∧ va_T .int (K 6) 5 (fun j => .int (zGre.getD j 0)) A U H) ∧
  (vk_S 1 [5] [zLet] (fun _ => K 4) (fun _ => K 5) A U H ∧ vk_R RX8 407 "rtsna" (K 4) U ∧ vk_R RX1 46 "rtsna" (K 4) U) ∧
  ((∃ a, vk_R RX8 363 "there is no such one" a U) ∧ (∃ a, vk_R RX8 370 "the argument is not allowed" a U) ∧ (∃ a, vk_R RX8 375 "the state does not allow this" a U) ∧ (∃ a, vk_R RX8 380 "denied, as the report says" a U) ∧ (∃ a, vk_R RX8 385 "there is no such element" a U)) ∧
  (∀ X ∈ zXs, va_Nw (.castable X X) U) ∧ (∀ X ∈ zXs, ∀ Y ∈ zXs, X ≠ Y → va_Nc X Y U) ∧ (∀ Y ∈ zDs, va_Nw (.declares (Bundle.initS Y)) U) ∧
  (va_Z "java/lang/Integer" "DigitTens" "[B" (.ref (K 7)) A U H ∧ va_T .byte (K 7) 100 (fun j => .int (nI (48 + j / 10))) A U H) ∧
  (va_Z "java/lang/Integer" "DigitOnes" "[B" (.ref (K 8)) A U H ∧ va_T .byte (K 8) 100 (fun j => .int (nI (48 + j % 10))) A U H) ∧
  va_Z "java/lang/String" "COMPACT_STRINGS" "Z" (.int 1) A U H ∧ va_Zq "jdk/internal/util/Preconditions" "SIOOBE_FORMATTER" "Ljava/util/function/BiFunction;" A U H ∧ va_Nw (.fieldLinkNest RX1 58 RX8 "GREATEST_NUMBER" "[I" RX8) U
theorem zT.go {K : Nat → Nat} {A B : Nat → Prop} {s U : State} {H : Heap} (h : zT K A s s.heap) (hW : s.WarmedH U.vm) (hq : ∀ a : Nat, a < s.heap.size → ¬ A a → H[a]? = s.heap[a]?) (hAB : ∀ q, B q → A q) : zT K B U H := by
  obtain ⟨h0, h1, h2, ⟨h3, h4⟩, ⟨h5, h6, h7⟩, ⟨⟨a1, h8⟩, ⟨a2, h9⟩, ⟨a3, h10⟩, ⟨a4, h11⟩, ⟨a5, h12⟩⟩, h13, h14, h15, ⟨h16, h17⟩, ⟨h18, h19⟩, h20, h21, h22⟩ := h
  exact ⟨fun q hq => (h0 q hq).warmM hW, ((h1.kept hq).narrow hAB).moved hW.alike, ((h2.kept hq).narrow hAB).moved hW.alike, ⟨va_Z.moved hW.alike ((h3.kept hq).narrow hAB), va_T.moved hW.alike ((h4.kept hq).narrow hAB)⟩,
    ⟨vk_S.moved hW.alike ((h5.kept hq).narrow hAB), h6.warm hW, h7.warm hW⟩, ⟨⟨a1, h8.warm hW⟩, ⟨a2, h9.warm hW⟩, ⟨a3, h10.warm hW⟩, ⟨a4, h11.warm hW⟩, ⟨a5, h12.warm hW⟩⟩, fun X hX => (h13 X hX).warmC hW, fun X hX Y hY hn => (h14 X hX Y hY hn).moved hW.alike, fun Y hY => (h15 Y hY).warmD hW,
    ⟨va_Z.moved hW.alike ((h16.kept hq).narrow hAB), va_T.moved hW.alike ((h17.kept hq).narrow hAB)⟩, ⟨va_Z.moved hW.alike ((h18.kept hq).narrow hAB), va_T.moved hW.alike ((h19.kept hq).narrow hAB)⟩, va_Z.moved hW.alike ((h20.kept hq).narrow hAB), va_Zq.moved hW.alike ((h21.kept hq).narrow hAB), h22.warmF hW⟩
theorem zT.same {K : Nat → Nat} {A : Nat → Prop} {u U : State} {H : Heap} (hv : U.vm = u.vm) (h : zT K A u H) : zT K A U H := by
  have hal : u.vm.Alike U.vm := by rw [hv]; exact Vm.Alike.refl _
  obtain ⟨h0, h1, h2, ⟨h3, h4⟩, ⟨h5, h6, h7⟩, ⟨⟨a1, h8⟩, ⟨a2, h9⟩, ⟨a3, h10⟩, ⟨a4, h11⟩, ⟨a5, h12⟩⟩, h13, h14, h15, ⟨h16, h17⟩, ⟨h18, h19⟩, h20, h21, h22⟩ := h
  exact ⟨fun q hq => va_Nw.same rfl hv.symm (h0 q hq), h1.moved hal, h2.moved hal, ⟨va_Z.moved hal h3, va_T.moved hal h4⟩, ⟨vk_S.moved hal h5, h6.same hv, h7.same hv⟩, ⟨⟨a1, h8.same hv⟩, ⟨a2, h9.same hv⟩, ⟨a3, h10.same hv⟩, ⟨a4, h11.same hv⟩, ⟨a5, h12.same hv⟩⟩, fun X hX => va_Nw.same rfl hv.symm (h13 X hX), fun X hX Y hY hn => (h14 X hX Y hY hn).moved hal, fun Y hY => va_Nw.same rfl hv.symm (h15 Y hY),
    ⟨va_Z.moved hal h16, va_T.moved hal h17⟩, ⟨va_Z.moved hal h18, va_T.moved hal h19⟩, va_Z.moved hal h20, va_Zq.moved hal h21, va_Nw.same rfl hv.symm h22⟩
theorem zT.nest {K : Nat → Nat} {A : Nat → Prop} {U : State} {H : Heap} (h : zT K A U H) : ∀ q ∈ zNest, va_Nw (.methodLinkNest q.1 q.2.1 q.2.2 RX8) U := h.1
theorem zT.unas {K : Nat → Nat} {A : Nat → Prop} {U : State} {H : Heap} (h : zT K A U H) : vx_Zq Bundle.tN "UNASSIGNED_STACK" Bundle.steD A U H := h.2.1
theorem zT.supp {K : Nat → Nat} {A : Nat → Prop} {U : State} {H : Heap} (h : zT K A U H) : vx_Zq Bundle.tN "SUPPRESSED_SENTINEL" Bundle.listD A U H := h.2.2.1
theorem zT.text1 {K : Nat → Nat} {A : Nat → Prop} {U : State} {H : Heap} (h : zT K A U H) : ∃ a, vk_R RX8 363 "there is no such one" a U := h.2.2.2.2.2.1.1
theorem zT.text2 {K : Nat → Nat} {A : Nat → Prop} {U : State} {H : Heap} (h : zT K A U H) : ∃ a, vk_R RX8 370 "the argument is not allowed" a U := h.2.2.2.2.2.1.2.1
theorem zT.text3 {K : Nat → Nat} {A : Nat → Prop} {U : State} {H : Heap} (h : zT K A U H) : ∃ a, vk_R RX8 375 "the state does not allow this" a U := h.2.2.2.2.2.1.2.2.1
theorem zT.text4 {K : Nat → Nat} {A : Nat → Prop} {U : State} {H : Heap} (h : zT K A U H) : ∃ a, vk_R RX8 380 "denied, as the report says" a U := h.2.2.2.2.2.1.2.2.2.1
theorem zT.text5 {K : Nat → Nat} {A : Nat → Prop} {U : State} {H : Heap} (h : zT K A U H) : ∃ a, vk_R RX8 385 "there is no such element" a U := h.2.2.2.2.2.1.2.2.2.2
theorem zT.castable {K : Nat → Nat} {A : Nat → Prop} {U : State} {H : Heap} (h : zT K A U H) {X : String} (hX : X ∈ zXs) : va_Nw (.castable X X) U := h.2.2.2.2.2.2.1 X hX
theorem zT.apart {K : Nat → Nat} {A : Nat → Prop} {U : State} {H : Heap} (h : zT K A U H) {X Y : String} (hX : X ∈ zXs) (hY : Y ∈ zXs) (hn : X ≠ Y) : va_Nc X Y U := h.2.2.2.2.2.2.2.1 X hX Y hY hn
theorem zT.decl {K : Nat → Nat} {A : Nat → Prop} {U : State} {H : Heap} (h : zT K A U H) {Y : String} (hY : Y ∈ zDs) : va_Nw (.declares (Bundle.initS Y)) U := h.2.2.2.2.2.2.2.2.1 Y hY
theorem zT.gre {K : Nat → Nat} {A : Nat → Prop} {U : State} {H : Heap} (h : zT K A U H) : va_Z RX8 "GREATEST_NUMBER" "[I" (.ref (K 6)) A U H ∧ va_T .int (K 6) 5 (fun j => .int (zGre.getD j 0)) A U H := h.2.2.2.1
theorem zT.lets {K : Nat → Nat} {A : Nat → Prop} {U : State} {H : Heap} (h : zT K A U H) : vk_S 1 [5] [zLet] (fun _ => K 4) (fun _ => K 5) A U H := h.2.2.2.2.1.1
theorem zT.let8 {K : Nat → Nat} {A : Nat → Prop} {U : State} {H : Heap} (h : zT K A U H) : vk_R RX8 407 "rtsna" (K 4) U := h.2.2.2.2.1.2.1
theorem zT.let1 {K : Nat → Nat} {A : Nat → Prop} {U : State} {H : Heap} (h : zT K A U H) : vk_R RX1 46 "rtsna" (K 4) U := h.2.2.2.2.1.2.2
theorem zT.tens {K : Nat → Nat} {A : Nat → Prop} {U : State} {H : Heap} (h : zT K A U H) : va_Z "java/lang/Integer" "DigitTens" "[B" (.ref (K 7)) A U H ∧ va_T .byte (K 7) 100 (fun j => .int (nI (48 + j / 10))) A U H := h.2.2.2.2.2.2.2.2.2.1
theorem zT.ones {K : Nat → Nat} {A : Nat → Prop} {U : State} {H : Heap} (h : zT K A U H) : va_Z "java/lang/Integer" "DigitOnes" "[B" (.ref (K 8)) A U H ∧ va_T .byte (K 8) 100 (fun j => .int (nI (48 + j % 10))) A U H := h.2.2.2.2.2.2.2.2.2.2.1
theorem zT.comp {K : Nat → Nat} {A : Nat → Prop} {U : State} {H : Heap} (h : zT K A U H) : va_Z "java/lang/String" "COMPACT_STRINGS" "Z" (.int 1) A U H := h.2.2.2.2.2.2.2.2.2.2.2.1
theorem zT.fmt {K : Nat → Nat} {A : Nat → Prop} {U : State} {H : Heap} (h : zT K A U H) : va_Zq "jdk/internal/util/Preconditions" "SIOOBE_FORMATTER" "Ljava/util/function/BiFunction;" A U H := h.2.2.2.2.2.2.2.2.2.2.2.2.1
theorem zT.grel {K : Nat → Nat} {A : Nat → Prop} {U : State} {H : Heap} (h : zT K A U H) : va_Nw (.fieldLinkNest RX1 58 RX8 "GREATEST_NUMBER" "[I" RX8) U := h.2.2.2.2.2.2.2.2.2.2.2.2.2
/-- the state at a method's start, seen by its own frame set -/
def zU (G : zG) (S : List zh) (ad : Nat → Nat) (σ : zs) (A : Nat → Prop) (U : State) : Prop := va_K G.1 vwCl (zTy G) U ∧ va_P G.1 vwCl (zW G S ad σ) U.heap ∧ va_D (fun _ => True) (zW G S ad σ) ∧ zT G.2 A U U.heap
def zPc (G : zG) (S : List zh) (ad : Nat → Nat) (σ : zs) (sz : Nat) (av : List Value) : Array Value → State → Prop := va_Pc av (fun U => U.heap.size = sz ∧ zU G S ad σ (zA ad S.length sz) U)
theorem zPc_blind {G : zG} {S : List zh} {ad : Nat → Nat} {σ : zs} {sz : Nat} {av : List Value} : FrameBlind (zPc G S ad σ sz av) := by
  intro a U g mk h
  obtain ⟨h0, h1, h2, h3, h4, h5⟩ := h
  exact ⟨h0, h1, va_K.moved (u := U) (U := U.calling g mk a) (Vm.Alike.refl U.vm) h2, h3, h4, zT.same (u := U) (U := U.calling g mk a) rfl h5⟩
/-- a body under way: the start s, the heap H now, the numbers σ -/
def zB (A : Nat → Prop) (s : State) (G : zG) (S : List zh) (ad : Nat → Nat) (σ : zs) (H : Heap) (locs : List Loc) : Prop :=
  (∀ q : Nat, s.heap.size ≤ q → A q) ∧ va_K G.1 vwCl (zTy G) s ∧ va_P G.1 vwCl (zW G S ad σ) H ∧ va_D A (zW G S ad σ) ∧ va_S A s.heap H locs ∧ zT G.2 A s s.heap
theorem zB_start {G : zG} {S : List zh} {ad : Nat → Nat} {σ : zs} {s : State} (h : zU G S ad σ (zA ad S.length s.heap.size) s) : zB (zA ad S.length s.heap.size) s G S ad σ s.heap [] :=
  ⟨fun _ h => Or.inr h, h.1, h.2.1, zD_self h.2.2.1, va_S.rf, h.2.2.2⟩
theorem zA_sub {A : Nat → Prop} {s : State} {G : zG} {S : List zh} {ad : Nat → Nat} {σ : zs} {H : Heap} {locs : List Loc} (B : zB A s G S ad σ H locs) : ∀ q, zA ad S.length H.size q → A q := by
  intro q h
  rcases h with ⟨k, hk, rfl⟩ | h
  · exact zA_in B.2.2.2.1 hk
  · exact B.1 q (Nat.le_trans B.2.2.2.2.1.1 h)
/-- what a callee finds -/
theorem zB_call {A : Nat → Prop} {s : State} {G : zG} {S : List zh} {ad : Nat → Nat} {σ : zs} {H : Heap} {locs : List Loc} (B : zB A s G S ad σ H locs) {av : List Value} : ∀ U : State, U.heap = H → s.WarmedH U.vm → zPc G S ad σ H.size av av.toArray U := by
  intro U hU hW
  refine ⟨rfl, by rw [hU], va_K.moved hW.alike B.2.1, by rw [hU]; exact B.2.2.1, B.2.2.2.1.weaken (fun _ _ _ _ => trivial), ?_⟩
  rw [hU]
  exact B.2.2.2.2.2.go hW B.2.2.2.2.1.2.1 (zA_sub B)
/-- behind a call -/
theorem zB_back {A : Nat → Prop} {s : State} {G : zG} {S : List zh} {ad : Nat → Nat} {σ τ : zs} {H H1 : Heap} {locs locs1 : List Loc} (B : zB A s G S ad σ H locs) (hP : va_P G.1 vwCl (zW G S ad τ) H1) (hS : va_S A s.heap H1 locs1) : zB A s G S ad τ H1 locs1 :=
  ⟨B.1, B.2.1, hP, zD_any B.2.2.2.1, hS, B.2.2.2.2.2⟩
section ZR
variable {p : Program} {l : Launch} {e : Env} {R : Room} {s : State} {m : MethodId} {args : Array Value} {below : List Frame} {meth : Method} {c : Code} {H : Heap} {locs : List Loc} {cells slots : Nat} {Q : State → Prop}
variable {cc : ByteArray} {pc : Nat} {ls : Array Slot} {rest : List Value} {A : Nat → Prop} {G : zG} {S : List zh} {ad : Nat → Nat} {σ : zs}
theorem zB_cell (B : zB A s G S ad σ H locs) {k : Nat} {x : zh} (hk : S[k]? = some x) : (zW G S ad σ)[k]? = some (ad k, zE G ad σ k x) := by rw [zW_get, hk]; rfl
/-- getfield of a number -/
theorem z_geti (hx : p.tables.exec = Jvm.exec) (hb : c.code = cc) {own ref C : String} {T : u_T} {N ci index : Nat} {Ts : List Cond} (hts : ∀ w ∈ Ts, w.before args s = true) (hin : ∀ w ∈ u_ws C T N, w ∈ Ts) (hown : s.vm.findClass own = some m.cls) (B : zB A s G S ad σ H locs)
    (k i : Nat) {fs : List (Option Nat)} (hk : S[k]? = some (.inr (ci, fs))) (hc : vwCl[ci]? = some (C, T, N)) (hf : fs[i]? = some none) (hi : i < N) (hlink : (Cond.fieldLink own index ref (T i).2.1 (T i).2.2.1) ∈ Ts) (hr : ref = (T i).1) (hdg : decode cc pc = .ok (.getfield index, 3))
    (kk : W p l e R s m args below meth c H locs cells slots Q (F0 m (pc + 3) ls (.int (σ k i) :: rest))) : W p l e R s m args below meth c H locs cells slots Q (F0 m pc ls (.ref (ad k) :: rest)) := by
  subst hr
  refine va_get hx hb hts hin hown B.2.1 B.2.2.1 k (zB_cell B hk) hc i hi (hts _ hlink) (fun _ h => h) (v := .int (σ k i)) ?_ hdg kk
  show (zF ad (σ k) 0 fs)[i]? = _
  rw [zF_get, hf]
  simp [zV]
/-- getfield of a cell of the world -/
theorem z_getr (hx : p.tables.exec = Jvm.exec) (hb : c.code = cc) {own ref C : String} {T : u_T} {N ci index : Nat} {Ts : List Cond} (hts : ∀ w ∈ Ts, w.before args s = true) (hin : ∀ w ∈ u_ws C T N, w ∈ Ts) (hown : s.vm.findClass own = some m.cls) (B : zB A s G S ad σ H locs)
    (k i r : Nat) {fs : List (Option Nat)} (hk : S[k]? = some (.inr (ci, fs))) (hc : vwCl[ci]? = some (C, T, N)) (hf : fs[i]? = some (some r)) (hi : i < N) (hlink : (Cond.fieldLink own index ref (T i).2.1 (T i).2.2.1) ∈ Ts) (hr : ref = (T i).1) (hdg : decode cc pc = .ok (.getfield index, 3))
    (kk : W p l e R s m args below meth c H locs cells slots Q (F0 m (pc + 3) ls (.ref (ad r) :: rest))) : W p l e R s m args below meth c H locs cells slots Q (F0 m pc ls (.ref (ad k) :: rest)) := by
  subst hr
  refine va_get hx hb hts hin hown B.2.1 B.2.2.1 k (zB_cell B hk) hc i hi (hts _ hlink) (fun _ h => h) (v := .ref (ad r)) ?_ hdg kk
  show (zF ad (σ k) 0 fs)[i]? = _
  rw [zF_get, hf]
  simp [zV]
/-- putfield of a number -/
theorem z_puti (hx : p.tables.exec = Jvm.exec) (hb : c.code = cc) {own ref C : String} {T : u_T} {N ci index : Nat} {Ts : List Cond} (hts : ∀ w ∈ Ts, w.before args s = true) (hin : ∀ w ∈ u_ws C T N, w ∈ Ts) (hown : s.vm.findClass own = some m.cls) (ty0 : Nat → FieldType) (hty : ∀ k, k < N → parseFieldDescriptor (T k).2.2.1 = some (ty0 k)) (hnm : ∀ a, a < N → ∀ b, b < N → a ≠ b → (T a).2.1 ≠ (T b).2.1) (B : zB A s G S ad σ H locs)
    (k i : Nat) {fs : List (Option Nat)} {x : Int32} (hk : S[k]? = some (.inr (ci, fs))) (hc : vwCl[ci]? = some (C, T, N)) (hf : fs[i]? = some none) (hi : i < N) (hlink : (Cond.fieldLink own index ref (T i).2.1 (T i).2.2.1) ∈ Ts) (hr : ref = (T i).1) (hfin : (T i).2.2.2 = false) (hn : narrow (ty0 i) (.int x) = .int x) (hfit : fits (ty0 i) (.int x) = true) (hdg : decode cc pc = .ok (.putfield index, 3))
    (kk : ∀ (H1 : Heap) (locs1 : List Loc), zB A s G S ad (zp σ k i x) H1 locs1 → W p l e R s m args below meth c H1 locs1 cells slots Q (F0 m (pc + 3) ls rest)) : W p l e R s m args below meth c H locs cells slots Q (F0 m pc ls (.int x :: .ref (ad k) :: rest)) := by
  subst hr
  have hl : i < fs.length := (List.getElem?_eq_some_iff.mp hf).1
  have he : (zW G S ad σ).set k (ad k, .inr (ci, (zF ad (σ k) 0 fs).set i (.int x))) = zW G S ad (zp σ k i x) :=
    zW_row G ad σ hk (upd (σ k) i x) (by simp only [zE, zR_self, zF_upd ad (σ k) fs i x hf])
  refine va_put hx hb hts hin ty0 hty hnm hown B.2.1 B.2.2.1 B.2.2.2.1 B.2.2.2.2.1 k (zB_cell B hk) hc i hi (hts _ hlink) (fun _ h => h) hfin (hty i hi) hn hfit (by show i < (zF ad (σ k) 0 fs).length; rw [zF_len]; exact hl) hdg (fun H1 locs1 hP hD hS => kk H1 locs1 ⟨B.1, B.2.1, by rw [← he]; exact hP, by rw [← he]; exact hD, hS, B.2.2.2.2.2⟩)
theorem z_arr (B : zB A s G S ad σ H locs) {k t n : Nat} (hk : S[k]? = some (.inl (t, n))) (ht : t ≠ 2) : (zW G S ad σ)[k]? = some (ad k, .inl (G.2 t, n, .inl (σ k))) := by
  rw [zB_cell B hk]; simp [zE, zQ, ht]
theorem z_arrL (B : zB A s G S ad σ H locs) {k n : Nat} (hk : S[k]? = some (.inl (2, n))) : (zW G S ad σ)[k]? = some (ad k, .inl (G.2 2, n, .inr (.inl (fun j => (σ k j).toInt64)))) := by
  rw [zB_cell B hk]; simp [zE, zQ]
theorem z_setA (G : zG) {S : List zh} (ad : Nat → Nat) (σ : zs) {k t n : Nat} (hk : S[k]? = some (.inl (t, n))) (ht : t ≠ 2) (f : Nat → Int32) : (zW G S ad σ).set k (ad k, .inl (G.2 t, n, .inl f)) = zW G S ad (zR σ k f) :=
  zW_row G ad σ hk f (by simp [zE, zQ, ht, zR_self])
theorem z_iald (hx : p.tables.exec = Jvm.exec) (hb : c.code = cc) (B : zB A s G S ad σ H locs) (k : Nat) {n : Nat} {i : Int32} (hk : S[k]? = some (.inl (0, n))) (hin : vp_in i n) (hdg : decode cc pc = .ok (.iaload, 1))
    (kk : W p l e R s m args below meth c H locs cells slots Q (F0 m (pc + 1) ls (.int (σ k i.toNatClampNeg) :: rest))) : W p l e R s m args below meth c H locs cells slots Q (F0 m pc ls (.int i :: .ref (ad k) :: rest)) :=
  va_iald hx hb B.2.1 B.2.2.1 k 0 (z_arr B hk (by decide)) rfl hin hdg kk
theorem z_cald (hx : p.tables.exec = Jvm.exec) (hb : c.code = cc) (B : zB A s G S ad σ H locs) (k : Nat) {n : Nat} {i : Int32} (hk : S[k]? = some (.inl (1, n))) (hin : vp_in i n) (hdg : decode cc pc = .ok (.caload, 1))
    (kk : W p l e R s m args below meth c H locs cells slots Q (F0 m (pc + 1) ls (.int (σ k i.toNatClampNeg) :: rest))) : W p l e R s m args below meth c H locs cells slots Q (F0 m pc ls (.int i :: .ref (ad k) :: rest)) :=
  va_cald hx hb B.2.1 B.2.2.1 k 1 (z_arr B hk (by decide)) rfl hin hdg kk
theorem z_lald (hx : p.tables.exec = Jvm.exec) (hb : c.code = cc) (B : zB A s G S ad σ H locs) (k : Nat) {n : Nat} {i : Int32} (hk : S[k]? = some (.inl (2, n))) (hin : vp_in i n) (hdg : decode cc pc = .ok (.laload, 1))
    (kk : W p l e R s m args below meth c H locs cells slots Q (F0 m (pc + 1) ls (.long (σ k i.toNatClampNeg).toInt64 :: rest))) : W p l e R s m args below meth c H locs cells slots Q (F0 m pc ls (.int i :: .ref (ad k) :: rest)) :=
  va_lald hx hb B.2.1 B.2.2.1 k 2 (z_arrL B hk) rfl hin hdg kk
theorem z_alen (hx : p.tables.exec = Jvm.exec) (hb : c.code = cc) (B : zB A s G S ad σ H locs) (k : Nat) {t n : Nat} {v : Int32} (hk : S[k]? = some (.inl (t, n))) (ht : t = 0) (hv : Int32.ofNat n = v) (hdg : decode cc pc = .ok (.arraylength, 1))
    (kk : W p l e R s m args below meth c H locs cells slots Q (F0 m (pc + 1) ls (.int v :: rest))) : W p l e R s m args below meth c H locs cells slots Q (F0 m pc ls (.ref (ad k) :: rest)) := by
  subst ht
  exact va_alen hx hb B.2.1 B.2.2.1 k 0 (z_arr B hk (by decide)) (ty := .int) rfl hv hdg kk
theorem z_iast (hx : p.tables.exec = Jvm.exec) (hb : c.code = cc) (B : zB A s G S ad σ H locs) (k : Nat) {n : Nat} {i x : Int32} (hk : S[k]? = some (.inl (0, n))) (hin : vp_in i n) (hdg : decode cc pc = .ok (.iastore, 1))
    (kk : ∀ (H1 : Heap) (locs1 : List Loc), zB A s G S ad (zp σ k i.toNatClampNeg x) H1 locs1 → W p l e R s m args below meth c H1 locs1 cells slots Q (F0 m (pc + 1) ls rest)) : W p l e R s m args below meth c H locs cells slots Q (F0 m pc ls (.int x :: .int i :: .ref (ad k) :: rest)) := by
  have he := z_setA G ad σ hk (by decide) (upd (σ k) i.toNatClampNeg x)
  exact va_iast hx hb B.2.1 B.2.2.1 B.2.2.2.1 B.2.2.2.2.1 k 0 (z_arr B hk (by decide)) rfl hin hdg (fun H1 locs1 hP hD hS => kk H1 locs1 ⟨B.1, B.2.1, by rw [← show _ = zW G S ad (zp σ k i.toNatClampNeg x) from he]; exact hP, by rw [← show _ = zW G S ad (zp σ k i.toNatClampNeg x) from he]; exact hD, hS, B.2.2.2.2.2⟩)
theorem z_cast (hx : p.tables.exec = Jvm.exec) (hb : c.code = cc) (B : zB A s G S ad σ H locs) (k : Nat) {n : Nat} {i x : Int32} (hk : S[k]? = some (.inl (1, n))) (hin : vp_in i n) (hdg : decode cc pc = .ok (.castore, 1))
    (kk : ∀ (H1 : Heap) (locs1 : List Loc), zB A s G S ad (zp σ k i.toNatClampNeg (vp_nar .char x)) H1 locs1 → W p l e R s m args below meth c H1 locs1 cells slots Q (F0 m (pc + 1) ls rest)) : W p l e R s m args below meth c H locs cells slots Q (F0 m pc ls (.int x :: .int i :: .ref (ad k) :: rest)) := by
  have he := z_setA G ad σ hk (by decide) (upd (σ k) i.toNatClampNeg (vp_nar .char x))
  exact va_cast hx hb B.2.1 B.2.2.1 B.2.2.2.1 B.2.2.2.2.1 k 1 (z_arr B hk (by decide)) rfl hin hdg (fun H1 locs1 hP hD hS => kk H1 locs1 ⟨B.1, B.2.1, by rw [← show _ = zW G S ad (zp σ k i.toNatClampNeg (vp_nar .char x)) from he]; exact hP, by rw [← show _ = zW G S ad (zp σ k i.toNatClampNeg (vp_nar .char x)) from he]; exact hD, hS, B.2.2.2.2.2⟩)
/-- the law's out[0]: a widened int -/
theorem z_last (hx : p.tables.exec = Jvm.exec) (hb : c.code = cc) (B : zB A s G S ad σ H locs) (k : Nat) {n : Nat} {i x : Int32} {z : Int64} (hz : z = x.toInt64) (hk : S[k]? = some (.inl (2, n))) (hin : vp_in i n) (hdg : decode cc pc = .ok (.lastore, 1))
    (kk : ∀ (H1 : Heap) (locs1 : List Loc), zB A s G S ad (zp σ k i.toNatClampNeg x) H1 locs1 → W p l e R s m args below meth c H1 locs1 cells slots Q (F0 m (pc + 1) ls rest)) : W p l e R s m args below meth c H locs cells slots Q (F0 m pc ls (.long z :: .int i :: .ref (ad k) :: rest)) := by
  subst hz
  have he : (zW G S ad σ).set k (ad k, .inl (G.2 2, n, .inr (.inl (vp_updL (fun j => (σ k j).toInt64) i.toNatClampNeg x.toInt64)))) = zW G S ad (zp σ k i.toNatClampNeg x) := by
    refine zW_row G ad σ hk (upd (σ k) i.toNatClampNeg x) ?_
    simp only [zE, zQ, zR_self, if_pos]
    have hf : vp_updL (fun j => (σ k j).toInt64) i.toNatClampNeg x.toInt64 = fun j => (upd (σ k) i.toNatClampNeg x j).toInt64 := by
      funext j
      simp only [vp_updL, upd]
      split <;> rfl
    rw [hf]
  exact va_last hx hb B.2.1 B.2.2.1 B.2.2.2.1 B.2.2.2.2.1 k 2 (z_arrL B hk) rfl hin hdg (fun H1 locs1 hP hD hS => kk H1 locs1 ⟨B.1, B.2.1, by rw [← he]; exact hP, by rw [← he]; exact hD, hS, B.2.2.2.2.2⟩)
/-- System.arraycopy between int arrays of the world -/
theorem z_copyi (hx : p.tables.exec = Jvm.exec) (hb : c.code = cc) (hml : c.maxLocals = ls.size) {own : String} {index : Nat} {Ts : List Cond} (hts : ∀ w ∈ Ts, w.before args s = true) (hown : s.vm.findClass own = some m.cls) (hlink : Cond.methodLink own index arraycopyName ∈ Ts) (hnat : Cond.native arraycopyName ∈ Ts) (hstat : Cond.static arraycopyName ∈ Ts) (hini : Cond.initialized "java/lang/System" ∈ Ts)
    (B : zB A s G S ad σ H locs) (k0 k1 : Nat) {n0 n1 : Nat} {sp dp n : Int32} (hk0 : S[k0]? = some (.inl (0, n0))) (hk1 : S[k1]? = some (.inl (0, n1))) (h1 : ¬ sp < 0) (h2 : ¬ dp < 0) (h3 : ¬ n < 0) (h4 : sp.toNatClampNeg + n.toNatClampNeg ≤ n0) (h5 : dp.toNatClampNeg + n.toNatClampNeg ≤ n1)
    (hframes : 1 ≤ R.frames) (hlocals : (rest.map fun v => v.category).sum + (nativeFrameWords "java/lang/System" "arraycopy" 5 + 11) ≤ R.locals) (hdg : decode cc pc = .ok (.invokestatic index, 3))
    (kk : ∀ (H1 : Heap) (locs1 : List Loc), zB A s G S ad (zR σ k1 (va_cpy (σ k0) (σ k1) sp.toNatClampNeg dp.toNatClampNeg n.toNatClampNeg)) H1 locs1 → W p l e R s m args below meth c H1 locs1 cells slots Q (F0 m (pc + 3) ls rest)) : W p l e R s m args below meth c H locs cells slots Q (F0 m pc ls (.int n :: .int dp :: .ref (ad k1) :: .int sp :: .ref (ad k0) :: rest)) := by
  have he := z_setA G ad σ hk1 (by decide) (va_cpy (σ k0) (σ k1) sp.toNatClampNeg dp.toNatClampNeg n.toNatClampNeg)
  exact va_copyi hx hb hml hown (hts _ hlink) (hts _ hnat) (hts _ hstat) (hts _ hini) B.2.1 B.2.2.1 B.2.2.2.1 B.2.2.2.2.1 k0 k1 0 0 (z_arr B hk0 (by decide)) (z_arr B hk1 (by decide)) (ty := .int) rfl rfl rfl h1 h2 h3 h4 h5 (fun _ _ => rfl) hframes hlocals hdg
    (fun H1 locs1 hP hD hS => kk H1 locs1 ⟨B.1, B.2.1, by rw [← he]; exact hP, by rw [← he]; exact hD, hS, B.2.2.2.2.2⟩)
/-- an object of the world as a receiver -/
theorem z_recv (B : zB A s G S ad σ H locs) {k ci N : Nat} {C : String} {T : u_T} {fs : List (Option Nat)} (hk : S[k]? = some (.inr (ci, fs))) (hc : vwCl[ci]? = some (C, T, N)) : ∃ cell : Cell, H[ad k]? = some cell ∧ cell.vm.isStatics = false ∧ s.vm.findClass C = some cell.cls :=
  va_recv B.2.1 B.2.2.1 hc (zB_cell B hk)
end ZR
/-! contracts: what comes back is r, the world then σ' -/
def zPost (G : zG) (S : List zh) (ad : Nat → Nat) (σ' : zs) : Unit → State → Prop := fun _ t => va_P G.1 vwCl (zW G S ad σ') t.heap
def zMi (l : Launch) (y : MethodName) (ws : List Cond) (rm : Room) (G : zG) (S : List zh) (ad : Nat → Nat) (σ : zs) (av : List Value) (r : Int32) (σ' : zs) : Prop :=
  ∀ sz : Nat, Met l y ws rm (zPc G S ad σ sz av) (va_Qi (fun r' (_ : Unit) => r' = r) (zPost G S ad σ') (zA ad S.length sz)) rm.cells rm.slots (zA ad S.length sz)
def zMv (l : Launch) (y : MethodName) (ws : List Cond) (rm : Room) (G : zG) (S : List zh) (ad : Nat → Nat) (σ : zs) (av : List Value) (σ' : zs) : Prop :=
  ∀ sz : Nat, Met l y ws rm (zPc G S ad σ sz av) (va_Qv (fun (_ : Unit) => True) (zPost G S ad σ') (zA ad S.length sz)) rm.cells rm.slots (zA ad S.length sz)
def zMr (l : Launch) (y : MethodName) (ws : List Cond) (rm : Room) (G : zG) (S : List zh) (ad : Nat → Nat) (σ : zs) (av : List Value) (k : Nat) (σ' : zs) : Prop :=
  ∀ sz : Nat, Met l y ws rm (zPc G S ad σ sz av) (va_Qr (fun (_ : Unit) => True) (fun u a t => a = ad k ∧ zPost G S ad σ' u t) (zA ad S.length sz)) rm.cells rm.slots (zA ad S.length sz)
/-- the exceptions by their numbers -/
def zXn : Nat → String
  | 1 => "java/lang/IndexOutOfBoundsException"
  | 2 => "java/lang/IllegalArgumentException"
  | 3 => "java/lang/IllegalStateException"
  | 4 => "java/lang/UnsupportedOperationException"
  | _ => "java/util/NoSuchElementException"
def zXC (G : zG) (S : List zh) (ad : Nat → Nat) (e : Nat) (σ' : zs) (A : Nat → Prop) : String → State → State → Prop := vx_X (fun (_ : Unit) => True) (fun E u t => e ≠ 0 ∧ E = zXn e ∧ zPost G S ad σ' u t) A
def zXi (l : Launch) (y : MethodName) (ws : List Cond) (rm : Room) (G : zG) (S : List zh) (ad : Nat → Nat) (σ : zs) (av : List Value) (e : Nat) (r : Int32) (σ' : zs) : Prop :=
  ∀ sz : Nat, vx_Met l y ws rm (zPc G S ad σ sz av) (va_Qi (fun r' (_ : Unit) => e = 0 ∧ r' = r) (zPost G S ad σ') (zA ad S.length sz)) (zXC G S ad e σ' (zA ad S.length sz)) rm.cells rm.slots (zA ad S.length sz)
def zXv (l : Launch) (y : MethodName) (ws : List Cond) (rm : Room) (G : zG) (S : List zh) (ad : Nat → Nat) (σ : zs) (av : List Value) (e : Nat) (σ' : zs) : Prop :=
  ∀ sz : Nat, vx_Met l y ws rm (zPc G S ad σ sz av) (va_Qv (fun (_ : Unit) => e = 0) (zPost G S ad σ') (zA ad S.length sz)) (zXC G S ad e σ' (zA ad S.length sz)) rm.cells rm.slots (zA ad S.length sz)
section ZC
variable {p : Program} {l : Launch} {e : Env} {R : Room} {s : State} {m : MethodId} {args : Array Value} {below : List Frame} {meth : Method} {c : Code} {H : Heap} {locs : List Loc} {cells slots : Nat} {Q : State → Prop}
variable {cc bytes : ByteArray} {pc : Nat} {ls : Array Slot} {rest st : List Value} {A : Nat → Prop} {G : zG} {S : List zh} {ad : Nat → Nat} {σ σ' : zs}
variable {y : MethodName} {maxL nL n index : Nat} {ret : Option FieldType} {ws Ts : List Cond} {rm : Room} {own C : String} {r : Int32}
/-- the calls of an instance method: the run -/
theorem z_preV (B : zB A s G S ad σ H locs) {k ci N : Nat} {T : u_T} {fs : List (Option Nat)} (hk : S[k]? = some (.inr (ci, fs))) (hc : vwCl[ci]? = some (C, T, N)) {As : List Value} : PreV s H C (ad k) (zPc G S ad σ H.size (.ref (ad k) :: As)) As :=
  ⟨zPc_blind, z_recv B hk hc, zB_call B⟩
theorem z_preS (B : zB A s G S ad σ H locs) {As : List Value} : PreS s H (zPc G S ad σ H.size As) As := ⟨zPc_blind, zB_call B⟩
/-- behind a run -/
theorem z_i {mc ms : Nat} {a : Array Value} (B : zB A s G S ad σ H locs) (hr : va_Run p l e R s m args below meth c H locs cells slots mc ms (F0 m pc ls st) rest (va_Qi (fun r' (_ : Unit) => r' = r) (zPost G S ad σ') (zA ad S.length H.size) a) (zA ad S.length H.size))
    (kk : ∀ (H1 : Heap) (locs1 : List Loc), zB A s G S ad σ' H1 locs1 → W p l e R s m args below meth c H1 locs1 (cells + mc) (slots + ms) Q (F0 m (pc + 3) ls (.int r :: rest))) : W p l e R s m args below meth c H locs cells slots Q (F0 m pc ls st) := by
  refine va_calli hr B.2.2.2.2.1 (fun q _ h => zA_sub B q h) (zA_sub B) (fun r' u t H1 locs1 ht hvm hp hB hz hk hS => ?_)
  subst hp
  have hB : va_P G.1 vwCl (zW G S ad σ') t.heap := hB
  rw [ht] at hB
  exact kk H1 locs1 (zB_back B hB hS)
theorem z_v {mc ms : Nat} {a : Array Value} (B : zB A s G S ad σ H locs) (hr : va_Run p l e R s m args below meth c H locs cells slots mc ms (F0 m pc ls st) rest (va_Qv (fun (_ : Unit) => True) (zPost G S ad σ') (zA ad S.length H.size) a) (zA ad S.length H.size))
    (kk : ∀ (H1 : Heap) (locs1 : List Loc), zB A s G S ad σ' H1 locs1 → W p l e R s m args below meth c H1 locs1 (cells + mc) (slots + ms) Q (F0 m (pc + 3) ls rest)) : W p l e R s m args below meth c H locs cells slots Q (F0 m pc ls st) := by
  refine va_callv hr B.2.2.2.2.1 (fun q _ h => zA_sub B q h) (zA_sub B) (fun u t H1 locs1 ht hvm hp hB hz hk hS => ?_)
  have hB : va_P G.1 vwCl (zW G S ad σ') t.heap := hB
  rw [ht] at hB
  exact kk H1 locs1 (zB_back B hB hS)
theorem z_r {mc ms k : Nat} {a : Array Value} (B : zB A s G S ad σ H locs) (hr : va_Run p l e R s m args below meth c H locs cells slots mc ms (F0 m pc ls st) rest (va_Qr (fun (_ : Unit) => True) (fun u a t => a = ad k ∧ zPost G S ad σ' u t) (zA ad S.length H.size) a) (zA ad S.length H.size))
    (kk : ∀ (H1 : Heap) (locs1 : List Loc), zB A s G S ad σ' H1 locs1 → W p l e R s m args below meth c H1 locs1 (cells + mc) (slots + ms) Q (F0 m (pc + 3) ls (.ref (ad k) :: rest))) : W p l e R s m args below meth c H locs cells slots Q (F0 m pc ls st) := by
  refine va_callr hr B.2.2.2.2.1 (fun q _ h => zA_sub B q h) (zA_sub B) (fun u ra t H1 locs1 ht hvm hp hB hz hk hS => ?_)
  obtain ⟨rfl, hB⟩ := hB
  have hB : va_P G.1 vwCl (zW G S ad σ') t.heap := hB
  rw [ht] at hB
  exact kk H1 locs1 (zB_back B hB hS)
/-- behind a run that may throw -/
theorem z_xi {mc ms ex : Nat} {a : Array Value} (B : zB A s G S ad σ H locs) (hr : vx_Run p l e R s m args below meth c H locs cells slots mc ms (F0 m pc ls st) rest (va_Qi (fun r' (_ : Unit) => ex = 0 ∧ r' = r) (zPost G S ad σ') (zA ad S.length H.size) a) (zXC G S ad ex σ' (zA ad S.length H.size)) (zA ad S.length H.size))
    (kx : ∀ (H1 : Heap) (locs1 : List Loc) (ce : Cell) (q9 : Addr), ex ≠ 0 → zB A s G S ad σ' H1 locs1 → H1[q9]? = some ce → ce.vm = .none → s.vm.findClass (zXn ex) = some ce.cls → vx_W p l e R s m args below meth c H1 locs1 (cells + mc) (slots + ms) Q (F0 m pc ls rest) q9)
    (kk : ∀ (H1 : Heap) (locs1 : List Loc), ex = 0 → zB A s G S ad σ' H1 locs1 → W p l e R s m args below meth c H1 locs1 (cells + mc) (slots + ms) Q (F0 m (pc + 3) ls (.int r :: rest))) : W p l e R s m args below meth c H locs cells slots Q (F0 m pc ls st) := by
  refine vx_calli hr B.2.2.2.2.1 (fun q _ h => zA_sub B q h) (zA_sub B) (fun q _ h => zA_sub B q h) (fun E ce q9 u t H1 locs1 ht hvm hp hB hz hk hS h1 h2 h3 => ?_) (fun r' u t H1 locs1 ht hvm hp hB hz hk hS => ?_)
  · obtain ⟨h0, rfl, hB⟩ := hB
    have hB : va_P G.1 vwCl (zW G S ad σ') t.heap := hB
    rw [ht] at hB
    exact kx H1 locs1 ce q9 h0 (zB_back B hB hS) h1 h2 h3
  · obtain ⟨h0, rfl⟩ := hp
    have hB : va_P G.1 vwCl (zW G S ad σ') t.heap := hB
    rw [ht] at hB
    exact kk H1 locs1 h0 (zB_back B hB hS)
theorem z_xv {mc ms ex : Nat} {a : Array Value} (B : zB A s G S ad σ H locs) (hr : vx_Run p l e R s m args below meth c H locs cells slots mc ms (F0 m pc ls st) rest (va_Qv (fun (_ : Unit) => ex = 0) (zPost G S ad σ') (zA ad S.length H.size) a) (zXC G S ad ex σ' (zA ad S.length H.size)) (zA ad S.length H.size))
    (kx : ∀ (H1 : Heap) (locs1 : List Loc) (ce : Cell) (q9 : Addr), ex ≠ 0 → zB A s G S ad σ' H1 locs1 → H1[q9]? = some ce → ce.vm = .none → s.vm.findClass (zXn ex) = some ce.cls → vx_W p l e R s m args below meth c H1 locs1 (cells + mc) (slots + ms) Q (F0 m pc ls rest) q9)
    (kk : ∀ (H1 : Heap) (locs1 : List Loc), ex = 0 → zB A s G S ad σ' H1 locs1 → W p l e R s m args below meth c H1 locs1 (cells + mc) (slots + ms) Q (F0 m (pc + 3) ls rest)) : W p l e R s m args below meth c H locs cells slots Q (F0 m pc ls st) := by
  refine vx_callv hr B.2.2.2.2.1 (fun q _ h => zA_sub B q h) (zA_sub B) (fun q _ h => zA_sub B q h) (fun E ce q9 u t H1 locs1 ht hvm hp hB hz hk hS h1 h2 h3 => ?_) (fun u t H1 locs1 ht hvm hp hB hz hk hS => ?_)
  · obtain ⟨h0, rfl, hB⟩ := hB
    have hB : va_P G.1 vwCl (zW G S ad σ') t.heap := hB
    rw [ht] at hB
    exact kx H1 locs1 ce q9 h0 (zB_back B hB hS) h1 h2 h3
  · have hB : va_P G.1 vwCl (zW G S ad σ') t.heap := hB
    rw [ht] at hB
    exact kk H1 locs1 hp (zB_back B hB hS)
end ZC
