/-! constructors: a world that grows -/
def yB (A : Nat → Prop) (s : State) (G : zG) (ws : va_W) (H : Heap) (locs : List Loc) : Prop :=
  (∀ q : Nat, s.heap.size ≤ q → A q) ∧ va_K G.1 vwCl (zTy G) s ∧ va_P G.1 vwCl ws H ∧ va_D A ws ∧ va_S A s.heap H locs ∧ zT G.2 A s s.heap
def yU (G : zG) (ws : va_W) (A : Nat → Prop) (U : State) : Prop := va_K G.1 vwCl (zTy G) U ∧ va_P G.1 vwCl ws U.heap ∧ va_D (fun _ => True) ws ∧ zT G.2 A U U.heap
def yPc (G : zG) (ws : va_W) (sz : Nat) (av : List Value) : Array Value → State → Prop := va_Pc av (fun U => U.heap.size = sz ∧ yU G ws (va_A ws sz) U)
theorem yPc_blind {G : zG} {ws : va_W} {sz : Nat} {av : List Value} : FrameBlind (yPc G ws sz av) := by
  intro a U g mk h
  obtain ⟨h0, h1, h2, h3, h4, h5⟩ := h
  exact ⟨h0, h1, va_K.moved (u := U) (U := U.calling g mk a) (Vm.Alike.refl U.vm) h2, h3, h4, zT.same (u := U) (U := U.calling g mk a) rfl h5⟩
/-- a constructor's contract: over the new object alone; behind it the cells L of some addresses, the first of them the object's -/
def yM (l : Launch) (y : MethodName) (ws : List Cond) (rm : Room) (G : zG) (ob : va_E) (as : List Value) (L : (Nat → Nat) → va_W) : Prop :=
  ∀ sz h0 : Nat, Met l y ws rm (yPc G [(h0, ob)] sz (.ref h0 :: as)) (va_Qv (fun (_ : Unit) => True) (fun _ t => ∃ qs : Nat → Nat, qs 0 = h0 ∧ va_P G.1 vwCl (L qs) t.heap ∧ va_D (va_A [(h0, ob)] sz) (L qs)) (va_A [(h0, ob)] sz)) rm.cells rm.slots (va_A [(h0, ob)] sz)
theorem yB_start {G : zG} {ws : va_W} {s : State} (h : yU G ws (va_A ws s.heap.size) s) : yB (va_A ws s.heap.size) s G ws s.heap [] :=
  ⟨fun _ h => Or.inr h, h.1, h.2.1, h.2.2.1.self, va_S.rf, h.2.2.2⟩
theorem yB_is {A : Nat → Prop} {s : State} {G : zG} {ws ws' : va_W} {H : Heap} {locs : List Loc} (B : yB A s G ws H locs) (h : ws = ws') : yB A s G ws' H locs := h ▸ B
section YB
variable {p : Program} {l : Launch} {e : Env} {R : Room} {s : State} {m : MethodId} {args : Array Value} {below : List Frame} {meth : Method} {c : Code} {H : Heap} {locs : List Loc} {cells slots : Nat} {Q : State → Prop}
variable {cc bytes : ByteArray} {pc : Nat} {ls : Array Slot} {rest st : List Value} {A : Nat → Prop} {G : zG} {ws : va_W}
theorem y_sub (B : yB A s G ws H locs) {a : Nat} {ob : va_E} {i : Nat} (hi : ws[i]? = some (a, ob)) : ∀ q, va_A [(a, ob)] H.size q → A q := by
  intro q h
  rcases h with ⟨k, e, h⟩ | h
  · have hk : k < 1 := (List.getElem?_eq_some_iff.mp h).1
    rw [show k = 0 by omega] at h
    cases h
    exact B.2.2.2.1.2 i _ hi
  · exact B.1 q (Nat.le_trans B.2.2.2.2.1.1 h)
theorem y_pre (B : yB A s G ws H locs) {a : Nat} {ob : va_E} {i : Nat} (hi : ws[i]? = some (a, ob)) {as : List Value} : PreS s H (yPc G [(a, ob)] H.size (.ref a :: as)) (.ref a :: as) := by
  refine ⟨yPc_blind, fun U hU hW => ⟨rfl, by rw [hU], va_K.moved hW.alike B.2.1, ?_, ?_, ?_⟩⟩
  · rw [hU]
    intro k q hk
    have hk1 : k < 1 := (List.getElem?_eq_some_iff.mp hk).1
    rw [show k = 0 by omega] at hk
    cases hk
    exact B.2.2.1 i _ hi
  · refine ⟨fun i j p q h1 h2 _ => ?_, fun _ _ _ => trivial⟩
    have a1 : i < 1 := (List.getElem?_eq_some_iff.mp h1).1
    have a2 : j < 1 := (List.getElem?_eq_some_iff.mp h2).1
    omega
  · rw [hU]
    exact B.2.2.2.2.2.go hW B.2.2.2.2.1.2.1 (y_sub B hi)
/-- behind a constructor's call -/
theorem y_call {mc ms i : Nat} {a : Nat} {ob : va_E} {L : (Nat → Nat) → va_W} {av : Array Value} (B : yB A s G ws H locs) (hi : ws[i]? = some (a, ob)) (isR : List Nat) {wr : va_W} (hR : isR.map (fun i => ws[i]?) = wr.map some) (hn : va_nd isR = true) (hdis : ∀ j ∈ isR, j ∉ [i])
    (hr : va_Run p l e R s m args below meth c H locs cells slots mc ms (F0 m pc ls st) rest (va_Qv (fun (_ : Unit) => True) (fun _ t => ∃ qs : Nat → Nat, qs 0 = a ∧ va_P G.1 vwCl (L qs) t.heap ∧ va_D (va_A [(a, ob)] H.size) (L qs)) (va_A [(a, ob)] H.size) av) (va_A [(a, ob)] H.size))
    (kk : ∀ (qs : Nat → Nat) (H1 : Heap) (locs1 : List Loc), qs 0 = a → yB A s G (wr ++ L qs) H1 locs1 → W p l e R s m args below meth c H1 locs1 (cells + mc) (slots + ms) Q (F0 m (pc + 3) ls rest)) : W p l e R s m args below meth c H locs cells slots Q (F0 m pc ls st) := by
  refine va_callv hr B.2.2.2.2.1 (fun q _ h => y_sub B hi q h) (y_sub B hi) (fun u t H1 locs1 ht hvm hp hB hz hk hS => ?_)
  obtain ⟨qs, h0, hP1, hD1⟩ := hB
  rw [ht] at hP1
  obtain ⟨hP, hD⟩ := va_join (wc := [(a, ob)]) B.2.2.1 B.2.2.2.1 [i] isR (by simp [hi]) hR hn hdis hk (y_sub B hi) hP1 hD1
  exact kk qs H1 locs1 h0 ⟨B.1, B.2.1, hP, hD, hS, B.2.2.2.2.2⟩
theorem y_new (hx : p.tables.exec = Jvm.exec) (hb : c.code = cc) {own C : String} {T : u_T} {N ci index : Nat} {Ts : List Cond} (hts : ∀ w ∈ Ts, w.before args s = true) (hin : ∀ w ∈ u_ws C T N, w ∈ Ts) (ty : Nat → FieldType) (hty : ∀ k, k < N → parseFieldDescriptor (T k).2.2.1 = some (ty k)) (hown : s.vm.findClass own = some m.cls) (hcl : Cond.classLink own index C ∈ Ts) (hinst : Cond.instantiable C N ∈ Ts) (hini : Cond.initialized C ∈ Ts)
    (B : yB A s G ws H locs) (hc : vwCl[ci]? = some (C, T, N)) {fs : List Value} (hfs : ∀ j, j < N → defaultValue (ty j) = vp_V fs j) (hcells : cells + 1 ≤ R.cells) (hslots : slots + N ≤ R.slots) (hdg : decode cc pc = .ok (.new index, 3))
    (kk : ∀ (q : Nat) (H1 : Heap), yB A s G (ws ++ [(q, .inr (ci, fs))]) H1 locs → W p l e R s m args below meth c H1 locs (cells + 1) (slots + N) Q (F0 m (pc + 3) ls (.ref q :: rest))) : W p l e R s m args below meth c H locs cells slots Q (F0 m pc ls rest) :=
  va_new hx hb hts hin ty hty hown (hts _ hcl) (hts _ hinst) (hts _ hini) B.2.1 B.2.2.1 B.2.2.2.1 B.2.2.2.2.1 B.1 hc hfs hcells hslots hdg (fun q H1 hP hD hS => kk q H1 ⟨B.1, B.2.1, hP, hD, hS, B.2.2.2.2.2⟩)
def yK (t : Nat) : FieldType := match t with
  | 0 => .int
  | 1 => .char
  | 2 => .long
  | _ => .byte
theorem y_ty {K : zG} {U : State} (h : va_K K.1 vwCl (zTy K) U) {t : Nat} (ht : t < 4) : U.vm.findClass ("[" ++ (yK t).toString) = some (K.2 t) := by
  match t, ht with
  | 0, _ => exact (h.2 0 _ rfl).2
  | 1, _ => exact (h.2 1 _ rfl).2
  | 2, _ => exact (h.2 2 _ rfl).2
  | 3, _ => exact (h.2 3 _ rfl).2
def yZ (t n : Nat) : vp_A := (n, if t = 2 then .inr (.inl (fun _ => 0)) else .inl (fun _ => 0))
theorem y_newa (hx : p.tables.exec = Jvm.exec) (hb : c.code = cc) {atype : ArrayType} (t : Nat) (ht : t < 4) (hat : newarray.typeOf atype = yK t) {Ts : List Cond} (hts : ∀ w ∈ Ts, w.before args s = true) (harr : Cond.arrayClass (yK t) ∈ Ts) (B : yB A s G ws H locs)
    {n : Int32} {N' : Nat} (hn : ¬ n < 0) (hN : n.toNatClampNeg = N') (hbytes : N' * componentBytes (yK t) ≤ 536870912) (hcells : cells + 1 ≤ R.cells) (hslots : slots + N' ≤ R.slots) (hdg : decode cc pc = .ok (.newarray atype, 2))
    (kk : ∀ (q : Nat) (H1 : Heap), yB A s G (ws ++ [(q, .inl (G.2 t, yZ t N'))]) H1 locs → W p l e R s m args below meth c H1 locs (cells + 1) (slots + N') Q (F0 m (pc + 2) ls (.ref q :: rest))) : W p l e R s m args below meth c H locs cells slots Q (F0 m pc ls (.int n :: rest)) := by
  refine va_newa hx hb (by rw [hat]; exact hts _ harr) hat B.2.1 B.2.2.1 B.2.2.2.1 B.2.2.2.2.1 B.1 (a0 := yZ t N') ?_ hn hN hbytes hcells hslots hdg (fun q cA H1 hK hP hD hS => ?_)
  · intro cA
    match t, ht with
    | 0, _ => rfl
    | 1, _ => rfl
    | 2, _ => rfl
    | 3, _ => rfl
  · have h1 : va_RA s cA (yK t) := (hK.2 4 (cA, yK t) rfl).2
    have h2 : s.vm.findClass ("[" ++ (yK t).toString) = some cA := by
      match t, ht with
      | 0, _ => exact h1
      | 1, _ => exact h1
      | 2, _ => exact h1
      | 3, _ => exact h1
    have h3 : cA = G.2 t := Option.some.inj (h2.symm.trans (y_ty B.2.1 ht))
    subst h3
    exact kk q H1 ⟨B.1, B.2.1, hP, hD, hS, B.2.2.2.2.2⟩
/-- a final field's first value -/
theorem y_putF (hx : p.tables.exec = Jvm.exec) (hb : c.code = cc) {own ref C : String} {T : u_T} {N ci index : Nat} {Ts : List Cond} (hts : ∀ w ∈ Ts, w.before args s = true) (hin : ∀ w ∈ u_ws C T N, w ∈ Ts) (ty0 : Nat → FieldType) (hty : ∀ k, k < N → parseFieldDescriptor (T k).2.2.1 = some (ty0 k)) (hnm : ∀ a, a < N → ∀ b, b < N → a ≠ b → (T a).2.1 ≠ (T b).2.1) (hown : s.vm.findClass own = some m.cls) (B : yB A s G ws H locs) (q0 : Nat) {a : Nat} {fs : List Value} (he : ws[q0]? = some (a, .inr (ci, fs))) (hc : vwCl[ci]? = some (C, T, N)) (k : Nat) (hk : k < N)
    (hlink : Cond.fieldLink own index ref (T k).2.1 (T k).2.2.1 ∈ Ts) (hr : ref = (T k).1) (hfin : (T k).2.2.2 = true) (hin2 : meth.name = "<init>") (hdecl : (T k).1 = own) {v : Value} (hn : narrow (ty0 k) v = v) (hfit : fits (ty0 k) v = true) (hl : k < fs.length) (hdg : decode cc pc = .ok (.putfield index, 3))
    (kk : ∀ (H1 : Heap) (locs1 : List Loc), yB A s G (ws.set q0 (a, .inr (ci, fs.set k v))) H1 locs1 → W p l e R s m args below meth c H1 locs1 cells slots Q (F0 m (pc + 3) ls rest)) : W p l e R s m args below meth c H locs cells slots Q (F0 m pc ls (v :: .ref a :: rest)) := by
  subst hr
  exact va_putF hx hb hts hin ty0 hty hnm hown B.2.1 B.2.2.1 B.2.2.2.1 B.2.2.2.2.1 q0 he hc k hk (hts _ hlink) (fun _ h => h) hfin hin2 hdecl (hty k hk) hn hfit hl hdg (fun H1 locs1 hP hD hS => kk H1 locs1 ⟨B.1, B.2.1, hP, hD, hS, B.2.2.2.2.2⟩)
theorem y_put (hx : p.tables.exec = Jvm.exec) (hb : c.code = cc) {own ref C : String} {T : u_T} {N ci index : Nat} {Ts : List Cond} (hts : ∀ w ∈ Ts, w.before args s = true) (hin : ∀ w ∈ u_ws C T N, w ∈ Ts) (ty0 : Nat → FieldType) (hty : ∀ k, k < N → parseFieldDescriptor (T k).2.2.1 = some (ty0 k)) (hnm : ∀ a, a < N → ∀ b, b < N → a ≠ b → (T a).2.1 ≠ (T b).2.1) (hown : s.vm.findClass own = some m.cls) (B : yB A s G ws H locs) (q0 : Nat) {a : Nat} {fs : List Value} (he : ws[q0]? = some (a, .inr (ci, fs))) (hc : vwCl[ci]? = some (C, T, N)) (k : Nat) (hk : k < N)
    (hlink : Cond.fieldLink own index ref (T k).2.1 (T k).2.2.1 ∈ Ts) (hsame : ∀ x, s.fieldFound? (T k).1 (T k).2.1 (T k).2.2.1 = some x → s.fieldFound? ref (T k).2.1 (T k).2.2.1 = some x) (hfin : (T k).2.2.2 = false) {v : Value} (hn : narrow (ty0 k) v = v) (hfit : fits (ty0 k) v = true) (hl : k < fs.length) (hdg : decode cc pc = .ok (.putfield index, 3))
    (kk : ∀ (H1 : Heap) (locs1 : List Loc), yB A s G (ws.set q0 (a, .inr (ci, fs.set k v))) H1 locs1 → W p l e R s m args below meth c H1 locs1 cells slots Q (F0 m (pc + 3) ls rest)) : W p l e R s m args below meth c H locs cells slots Q (F0 m pc ls (v :: .ref a :: rest)) :=
  va_put hx hb hts hin ty0 hty hnm hown B.2.1 B.2.2.1 B.2.2.2.1 B.2.2.2.2.1 q0 he hc k hk (hts _ hlink) hsame hfin (hty k hk) hn hfit hl hdg (fun H1 locs1 hP hD hS => kk H1 locs1 ⟨B.1, B.2.1, hP, hD, hS, B.2.2.2.2.2⟩)
theorem y_nest (B : yB A s G ws H locs) {q : String × Nat × MethodName} (hq : q ∈ zNest) : va_Nw (.methodLinkNest q.1 q.2.1 q.2.2 RX8) s := B.2.2.2.2.2.nest q hq
/-- the end of a constructor -/
theorem y_ret (hx : p.tables.exec = Jvm.exec) (hb : c.code = cc) (hr : meth.sig.returnType = none) (hlocks : meth.locks = false) {L : (Nat → Nat) → va_W} {h0 : Nat} (B : yB A s G ws H locs) (qs : Nat → Nat) (h : qs 0 = h0) (hw : ws = L qs) (hd : decode cc pc = .ok (.return_, 1)) :
    W p l e R s m args below meth c H locs cells slots (MQ below (va_Qv (fun (_ : Unit) => True) (fun _ t => ∃ qs : Nat → Nat, qs 0 = h0 ∧ va_P G.1 vwCl (L qs) t.heap ∧ va_D A (L qs)) A) args s cells slots A) (F0 m pc ls []) := by
  subst hw
  refine W.vret hx hb hr (fun t ht _ => ⟨⟨(), rfl, trivial, qs, h, ?_, B.2.2.2.1⟩, B.2.2.2.2.1.F ht⟩) B.2.2.2.2.1.2.2 hd hlocks
  rw [ht]; exact B.2.2.1
end YB
