def zS (nb : Nat) : List zh := [.inr (12, [some 1, some 25, none, some 49, some 52, some 57, some 62, some 63]), .inr (10, [some 2, some 14, some 20, some 22, some 23, none, some 24, none]), .inr (11, [none, some 3, some 4, some 5, some 6, some 7, some 8, some 9, some 10, some 11, some 12, some 13]), .inl (0, 28), .inl (0, 28), .inl (0, 196), .inl (0, 28), .inl (0, 28), .inl (0, 28), .inl (0, 28), .inl (0, 112), .inl (0, 112), .inl (0, 112), .inr (7, [none, none, none, none, none, none]), .inr (4, [none, some 15, some 16, none, some 17, some 18, some 19]), .inl (0, 4), .inl (0, 4), .inl (0, 12), .inl (0, 12), .inl (0, 12), .inr (6, [some 21, none, none, none]), .inl (0, 20), .inl (0, 12), .inl (0, 12), .inl (0, 28), .inr (10, [some 26, some 38, some 44, some 46, some 47, none, some 48, none]), .inr (11, [none, some 27, some 28, some 29, some 30, some 31, some 32, some 33, some 34, some 35, some 36, some 37]), .inl (0, 28), .inl (0, 28), .inl (0, 196), .inl (0, 28), .inl (0, 28), .inl (0, 28), .inl (0, 28), .inl (0, 112), .inl (0, 112), .inl (0, 112), .inr (7, [none, none, none, none, none, none]), .inr (4, [none, some 39, some 40, none, some 41, some 42, some 43]), .inl (0, 4), .inl (0, 4), .inl (0, 12), .inl (0, 12), .inl (0, 12), .inr (6, [some 45, none, none, none]), .inl (0, 20), .inl (0, 12), .inl (0, 12), .inl (0, 28), .inr (9, [some 50, some 51, none]), .inl (0, 3), .inl (0, 3), .inr (5, [some 53, none, none, none, some 54, some 55, some 56, none]), .inl (1, 40), .inl (0, 4), .inl (0, 4), .inl (0, 4), .inr (8, [some 58, some 59, some 60, some 61]), .inl (0, 6), .inl (0, 6), .inl (0, 168), .inl (0, 168), .inl (0, 5), .inr (1, [some 64, none, none, none]), .inl (3, nb), .inr (13, [some 66, some 67, none, none, some 68, none, none, some 69, some 70, some 71, none, none, none, some 72, none, none, none, none, some 73, some 74]), .inl (0, 628), .inl (0, 628), .inl (0, 40), .inl (0, 7), .inl (0, 3), .inl (0, 3), .inl (0, 12), .inl (0, 6), .inl (0, 6), .inl (2, 1)]
/-! the second layer: the StringBuilder's bytes (place 64) may be anywhere, of any length; its letters are what counts -/
def XS (nb : Nat) (g : Nat → Int32) (σ : zs) : Prop := (∀ j, j < (σ 63 3).toNatClampNeg → g j = σ 64 j) ∧ (σ 63 3).toNatClampNeg ≤ nb ∧ (∀ j, fits .byte (.int (g j)) = true) ∧ nb ≤ 100
def xB (A : Nat → Prop) (s : State) (G : zG) (ad : Nat → Nat) (σ : zs) (H : Heap) (locs : List Loc) : Prop :=
  ∃ (nb a : Nat) (g : Nat → Int32), XS nb g σ ∧ zB A s G (zS nb) (va_up ad 64 a) (zR σ 64 g) H locs
abbrev xV : Type := Nat × Nat × (Nat → Int32)
def xPost (G : zG) (ad : Nat → Nat) (σ' : zs) (A : Nat → Prop) : xV → State → Prop := fun u t => va_P G.1 vwCl (zW G (zS u.1) (va_up ad 64 u.2.1) (zR σ' 64 u.2.2)) t.heap ∧ va_D A (zW G (zS u.1) (va_up ad 64 u.2.1) (zR σ' 64 u.2.2))
def xQ (σ' : zs) : xV → Prop := fun u => XS u.1 u.2.2 σ'
abbrev xA (ad : Nat → Nat) (a sz : Nat) : Nat → Prop := zA (va_up ad 64 a) 76 sz
def xMi (l : Launch) (y : MethodName) (ws : List Cond) (rm : Room) (G : zG) (ad : Nat → Nat) (σ : zs) (av : List Value) (r : Int32) (σ' : zs) : Prop :=
  ∀ (sz nb a : Nat) (g : Nat → Int32), XS nb g σ → Met l y ws rm (zPc G (zS nb) (va_up ad 64 a) (zR σ 64 g) sz av) (va_Qi (fun r' (u : xV) => r' = r ∧ xQ σ' u) (xPost G ad σ' (xA ad a sz)) (xA ad a sz)) rm.cells rm.slots (xA ad a sz)
def xMv (l : Launch) (y : MethodName) (ws : List Cond) (rm : Room) (G : zG) (ad : Nat → Nat) (σ : zs) (av : List Value) (σ' : zs) : Prop :=
  ∀ (sz nb a : Nat) (g : Nat → Int32), XS nb g σ → Met l y ws rm (zPc G (zS nb) (va_up ad 64 a) (zR σ 64 g) sz av) (va_Qv (fun (u : xV) => xQ σ' u) (xPost G ad σ' (xA ad a sz)) (xA ad a sz)) rm.cells rm.slots (xA ad a sz)
def xMr (l : Launch) (y : MethodName) (ws : List Cond) (rm : Room) (G : zG) (ad : Nat → Nat) (σ : zs) (av : List Value) (k : Nat) (σ' : zs) : Prop :=
  ∀ (sz nb a : Nat) (g : Nat → Int32), XS nb g σ → Met l y ws rm (zPc G (zS nb) (va_up ad 64 a) (zR σ 64 g) sz av) (va_Qr (fun (u : xV) => xQ σ' u) (fun u q t => q = ad k ∧ xPost G ad σ' (xA ad a sz) u t) (xA ad a sz)) rm.cells rm.slots (xA ad a sz)
def xXC (G : zG) (ad : Nat → Nat) (e : Nat) (σ' : zs) (A : Nat → Prop) : String → State → State → Prop := vx_X (fun (u : xV) => xQ σ' u) (fun E u t => e ≠ 0 ∧ E = zXn e ∧ xPost G ad σ' A u t) A
def xXi (l : Launch) (y : MethodName) (ws : List Cond) (rm : Room) (G : zG) (ad : Nat → Nat) (σ : zs) (av : List Value) (e : Nat) (r : Int32) (σ' : zs) : Prop :=
  ∀ (sz nb a : Nat) (g : Nat → Int32), XS nb g σ → vx_Met l y ws rm (zPc G (zS nb) (va_up ad 64 a) (zR σ 64 g) sz av) (va_Qi (fun r' (u : xV) => (e = 0 ∧ r' = r) ∧ xQ σ' u) (xPost G ad σ' (xA ad a sz)) (xA ad a sz)) (xXC G ad e σ' (xA ad a sz)) rm.cells rm.slots (xA ad a sz)
def xXv (l : Launch) (y : MethodName) (ws : List Cond) (rm : Room) (G : zG) (ad : Nat → Nat) (σ : zs) (av : List Value) (e : Nat) (σ' : zs) : Prop :=
  ∀ (sz nb a : Nat) (g : Nat → Int32), XS nb g σ → vx_Met l y ws rm (zPc G (zS nb) (va_up ad 64 a) (zR σ 64 g) sz av) (va_Qv (fun (u : xV) => e = 0 ∧ xQ σ' u) (xPost G ad σ' (xA ad a sz)) (xA ad a sz)) (xXC G ad e σ' (xA ad a sz)) rm.cells rm.slots (xA ad a sz)
theorem xR_p (σ : zs) (g : Nat → Int32) {k : Nat} (j : Nat) (v : Int32) (hk : k ≠ 64) : zp (zR σ 64 g) k j v = zR (zp σ k j v) 64 g := by
  funext a
  by_cases h1 : a = 64
  · subst h1
    simp [zp, zR, Ne.symm hk]
  · by_cases h2 : a = k
    · subst h2
      simp [zp, zR, h1]
    · simp [zp, zR, h1, h2]
theorem xR_R (σ : zs) (g : Nat → Int32) {k : Nat} (f : Nat → Int32) (hk : k ≠ 64) : zR (zR σ 64 g) k f = zR (zR σ k f) 64 g := by
  funext a
  by_cases h1 : a = 64
  · subst h1
    simp [zR, Ne.symm hk]
  · by_cases h2 : a = k
    · subst h2
      simp [zR, h1]
    · simp [zR, h1, h2]
theorem XS_p {nb : Nat} {g : Nat → Int32} {σ : zs} (h : XS nb g σ) {k : Nat} (j : Nat) (v : Int32) (h3 : k ≠ 63) (h4 : k ≠ 64) : XS nb g (zp σ k j v) := by
  have e3 : zp σ k j v 63 = σ 63 := by simp [zp, zR, Ne.symm h3]
  have e4 : zp σ k j v 64 = σ 64 := by simp [zp, zR, Ne.symm h4]
  unfold XS
  rw [e3, e4]
  exact h
theorem XS_R {nb : Nat} {g : Nat → Int32} {σ : zs} (h : XS nb g σ) {k : Nat} (f : Nat → Int32) (h3 : k ≠ 63) (h4 : k ≠ 64) : XS nb g (zR σ k f) := by
  have e3 : zR σ k f 63 = σ 63 := by simp [zR, Ne.symm h3]
  have e4 : zR σ k f 64 = σ 64 := by simp [zR, Ne.symm h4]
  unfold XS
  rw [e3, e4]
  exact h
theorem xad {ad : Nat → Nat} {a k : Nat} (h : k ≠ 64) : va_up ad 64 a k = ad k := if_neg h
theorem zB_new {A A1 : Nat → Prop} {s : State} {G : zG} {S S' : List zh} {ad ad' : Nat → Nat} {σ τ : zs} {H H1 : Heap} {locs locs1 : List Loc} (B : zB A s G S ad σ H locs) (hP : va_P G.1 vwCl (zW G S' ad' τ) H1) (hD : va_D A1 (zW G S' ad' τ)) (hA : ∀ q, A1 q → A q) (hS : va_S A s.heap H1 locs1) : zB A s G S' ad' τ H1 locs1 :=
  ⟨B.1, B.2.1, hP, hD.weaken (fun _ q _ h => hA q.1 h), hS, B.2.2.2.2.2⟩
theorem xT {A : Nat → Prop} {s : State} {G : zG} {ad : Nat → Nat} {σ : zs} {H : Heap} {locs : List Loc} (B : xB A s G ad σ H locs) : zT G.2 A s s.heap := by
  obtain ⟨nb, a, g, hs, B⟩ := B
  exact B.2.2.2.2.2
theorem xS {A : Nat → Prop} {s : State} {G : zG} {ad : Nat → Nat} {σ : zs} {H : Heap} {locs : List Loc} (B : xB A s G ad σ H locs) : va_S A s.heap H locs := by
  obtain ⟨nb, a, g, hs, B⟩ := B
  exact B.2.2.2.2.1
theorem xB_start {G : zG} {ad : Nat → Nat} {σ : zs} {nb a : Nat} {g : Nat → Int32} {s : State} (hs : XS nb g σ) (h : zU G (zS nb) (va_up ad 64 a) (zR σ 64 g) (zA (va_up ad 64 a) (zS nb).length s.heap.size) s) : xB (xA ad a s.heap.size) s G ad σ s.heap [] :=
  ⟨nb, a, g, hs, zB_start h⟩
section XR
variable {p : Program} {l : Launch} {e : Env} {R : Room} {s : State} {m : MethodId} {args : Array Value} {below : List Frame} {meth : Method} {c : Code} {H : Heap} {locs : List Loc} {cells slots : Nat} {Q : State → Prop}
variable {cc bytes : ByteArray} {pc : Nat} {ls : Array Slot} {rest st : List Value} {A : Nat → Prop} {G : zG} {ad : Nat → Nat} {σ σ' τ : zs} {r xv : Int32}
theorem x_geti (hx : p.tables.exec = Jvm.exec) (hb : c.code = cc) {own ref C : String} {T : u_T} {N ci index : Nat} {Ts : List Cond} (hts : ∀ w ∈ Ts, w.before args s = true) (hin : ∀ w ∈ u_ws C T N, w ∈ Ts) (hown : s.vm.findClass own = some m.cls) (B : xB A s G ad σ H locs)
    (k i : Nat) {fs : List (Option Nat)} (h4 : k ≠ 64) (hk : ∀ nb, (zS nb)[k]? = some (.inr (ci, fs))) (hc : vwCl[ci]? = some (C, T, N)) (hf : fs[i]? = some none) (hi : i < N) (hlink : (Cond.fieldLink own index ref (T i).2.1 (T i).2.2.1) ∈ Ts) (hr : ref = (T i).1) (hdg : decode cc pc = .ok (.getfield index, 3))
    (kk : W p l e R s m args below meth c H locs cells slots Q (F0 m (pc + 3) ls (.int (σ k i) :: rest))) : W p l e R s m args below meth c H locs cells slots Q (F0 m pc ls (.ref (ad k) :: rest)) := by
  obtain ⟨nb, a, g, hs, B⟩ := B
  have h := z_geti (R := R) (below := below) (meth := meth) (cells := cells) (slots := slots) (Q := Q) (ls := ls) (rest := rest) (l := l) (e := e) hx hb hts hin hown B k i (hk nb) hc hf hi hlink hr hdg (by rw [zR_ne σ g h4]; exact kk)
  rw [xad h4] at h
  exact h
theorem x_getr (hx : p.tables.exec = Jvm.exec) (hb : c.code = cc) {own ref C : String} {T : u_T} {N ci index : Nat} {Ts : List Cond} (hts : ∀ w ∈ Ts, w.before args s = true) (hin : ∀ w ∈ u_ws C T N, w ∈ Ts) (hown : s.vm.findClass own = some m.cls) (B : xB A s G ad σ H locs)
    (k i r : Nat) {fs : List (Option Nat)} (h4 : k ≠ 64) (h5 : r ≠ 64) (hk : ∀ nb, (zS nb)[k]? = some (.inr (ci, fs))) (hc : vwCl[ci]? = some (C, T, N)) (hf : fs[i]? = some (some r)) (hi : i < N) (hlink : (Cond.fieldLink own index ref (T i).2.1 (T i).2.2.1) ∈ Ts) (hr : ref = (T i).1) (hdg : decode cc pc = .ok (.getfield index, 3))
    (kk : W p l e R s m args below meth c H locs cells slots Q (F0 m (pc + 3) ls (.ref (ad r) :: rest))) : W p l e R s m args below meth c H locs cells slots Q (F0 m pc ls (.ref (ad k) :: rest)) := by
  obtain ⟨nb, a, g, hs, B⟩ := B
  have h := z_getr (R := R) (below := below) (meth := meth) (cells := cells) (slots := slots) (Q := Q) (ls := ls) (rest := rest) (l := l) (e := e) hx hb hts hin hown B k i r (hk nb) hc hf hi hlink hr hdg (by rw [xad h5]; exact kk)
  rw [xad h4] at h
  exact h
theorem x_puti (hx : p.tables.exec = Jvm.exec) (hb : c.code = cc) {own ref C : String} {T : u_T} {N ci index : Nat} {Ts : List Cond} (hts : ∀ w ∈ Ts, w.before args s = true) (hin : ∀ w ∈ u_ws C T N, w ∈ Ts) (hown : s.vm.findClass own = some m.cls) (ty0 : Nat → FieldType) (hty : ∀ k, k < N → parseFieldDescriptor (T k).2.2.1 = some (ty0 k)) (hnm : ∀ a, a < N → ∀ b, b < N → a ≠ b → (T a).2.1 ≠ (T b).2.1) (B : xB A s G ad σ H locs)
    (k i : Nat) {fs : List (Option Nat)} {v : Int32} (h3 : k ≠ 63) (h4 : k ≠ 64) (hk : ∀ nb, (zS nb)[k]? = some (.inr (ci, fs))) (hc : vwCl[ci]? = some (C, T, N)) (hf : fs[i]? = some none) (hi : i < N) (hlink : (Cond.fieldLink own index ref (T i).2.1 (T i).2.2.1) ∈ Ts) (hr : ref = (T i).1) (hfin : (T i).2.2.2 = false) (hn : narrow (ty0 i) (.int v) = .int v) (hfit : fits (ty0 i) (.int v) = true) (hdg : decode cc pc = .ok (.putfield index, 3))
    (kk : ∀ (H1 : Heap) (locs1 : List Loc), xB A s G ad (zp σ k i v) H1 locs1 → W p l e R s m args below meth c H1 locs1 cells slots Q (F0 m (pc + 3) ls rest)) : W p l e R s m args below meth c H locs cells slots Q (F0 m pc ls (.int v :: .ref (ad k) :: rest)) := by
  obtain ⟨nb, a, g, hs, B⟩ := B
  have h := z_puti (R := R) (below := below) (meth := meth) (cells := cells) (slots := slots) (Q := Q) (ls := ls) (rest := rest) (l := l) (e := e) hx hb hts hin hown ty0 hty hnm B k i (hk nb) hc hf hi hlink hr hfin hn hfit hdg (fun H1 locs1 B => kk H1 locs1 ⟨nb, a, g, XS_p hs i v h3 h4, by rw [← xR_p σ g i v h4]; exact B⟩)
  rw [xad h4] at h
  exact h
theorem x_iald (hx : p.tables.exec = Jvm.exec) (hb : c.code = cc) (B : xB A s G ad σ H locs) (k : Nat) {n : Nat} {i : Int32} (h4 : k ≠ 64) (hk : ∀ nb, (zS nb)[k]? = some (.inl (0, n))) (hin : vp_in i n) (hdg : decode cc pc = .ok (.iaload, 1))
    (kk : W p l e R s m args below meth c H locs cells slots Q (F0 m (pc + 1) ls (.int (σ k i.toNatClampNeg) :: rest))) : W p l e R s m args below meth c H locs cells slots Q (F0 m pc ls (.int i :: .ref (ad k) :: rest)) := by
  obtain ⟨nb, a, g, hs, B⟩ := B
  have h := z_iald (R := R) (below := below) (meth := meth) (cells := cells) (slots := slots) (Q := Q) (ls := ls) (rest := rest) (l := l) (e := e) (m := m) (args := args) hx hb B k (hk nb) hin hdg (by rw [zR_ne σ g h4]; exact kk)
  rw [xad h4] at h
  exact h
theorem x_cald (hx : p.tables.exec = Jvm.exec) (hb : c.code = cc) (B : xB A s G ad σ H locs) (k : Nat) {n : Nat} {i : Int32} (h4 : k ≠ 64) (hk : ∀ nb, (zS nb)[k]? = some (.inl (1, n))) (hin : vp_in i n) (hdg : decode cc pc = .ok (.caload, 1))
    (kk : W p l e R s m args below meth c H locs cells slots Q (F0 m (pc + 1) ls (.int (σ k i.toNatClampNeg) :: rest))) : W p l e R s m args below meth c H locs cells slots Q (F0 m pc ls (.int i :: .ref (ad k) :: rest)) := by
  obtain ⟨nb, a, g, hs, B⟩ := B
  have h := z_cald (R := R) (below := below) (meth := meth) (cells := cells) (slots := slots) (Q := Q) (ls := ls) (rest := rest) (l := l) (e := e) (m := m) (args := args) hx hb B k (hk nb) hin hdg (by rw [zR_ne σ g h4]; exact kk)
  rw [xad h4] at h
  exact h
theorem x_lald (hx : p.tables.exec = Jvm.exec) (hb : c.code = cc) (B : xB A s G ad σ H locs) (k : Nat) {n : Nat} {i : Int32} (h4 : k ≠ 64) (hk : ∀ nb, (zS nb)[k]? = some (.inl (2, n))) (hin : vp_in i n) (hdg : decode cc pc = .ok (.laload, 1))
    (kk : W p l e R s m args below meth c H locs cells slots Q (F0 m (pc + 1) ls (.long (σ k i.toNatClampNeg).toInt64 :: rest))) : W p l e R s m args below meth c H locs cells slots Q (F0 m pc ls (.int i :: .ref (ad k) :: rest)) := by
  obtain ⟨nb, a, g, hs, B⟩ := B
  have h := z_lald (R := R) (below := below) (meth := meth) (cells := cells) (slots := slots) (Q := Q) (ls := ls) (rest := rest) (l := l) (e := e) (m := m) (args := args) hx hb B k (hk nb) hin hdg (by rw [zR_ne σ g h4]; exact kk)
  rw [xad h4] at h
  exact h
theorem x_alen (hx : p.tables.exec = Jvm.exec) (hb : c.code = cc) (B : xB A s G ad σ H locs) (k : Nat) {t n : Nat} {v : Int32} (h4 : k ≠ 64) (hk : ∀ nb, (zS nb)[k]? = some (.inl (t, n))) (ht : t = 0) (hv : Int32.ofNat n = v) (hdg : decode cc pc = .ok (.arraylength, 1))
    (kk : W p l e R s m args below meth c H locs cells slots Q (F0 m (pc + 1) ls (.int v :: rest))) : W p l e R s m args below meth c H locs cells slots Q (F0 m pc ls (.ref (ad k) :: rest)) := by
  obtain ⟨nb, a, g, hs, B⟩ := B
  have h := z_alen (R := R) (below := below) (meth := meth) (cells := cells) (slots := slots) (Q := Q) (ls := ls) (rest := rest) (l := l) (e := e) (m := m) (args := args) hx hb B k (hk nb) ht hv hdg kk
  rw [xad h4] at h
  exact h
theorem x_iast (hx : p.tables.exec = Jvm.exec) (hb : c.code = cc) (B : xB A s G ad σ H locs) (k : Nat) {n : Nat} {i v : Int32} (h3 : k ≠ 63) (h4 : k ≠ 64) (hk : ∀ nb, (zS nb)[k]? = some (.inl (0, n))) (hin : vp_in i n) (hdg : decode cc pc = .ok (.iastore, 1))
    (kk : ∀ (H1 : Heap) (locs1 : List Loc), xB A s G ad (zp σ k i.toNatClampNeg v) H1 locs1 → W p l e R s m args below meth c H1 locs1 cells slots Q (F0 m (pc + 1) ls rest)) : W p l e R s m args below meth c H locs cells slots Q (F0 m pc ls (.int v :: .int i :: .ref (ad k) :: rest)) := by
  obtain ⟨nb, a, g, hs, B⟩ := B
  have h := z_iast (R := R) (below := below) (meth := meth) (cells := cells) (slots := slots) (Q := Q) (ls := ls) (rest := rest) (l := l) (e := e) (m := m) (args := args) hx hb B k (hk nb) hin hdg (fun H1 locs1 B => kk H1 locs1 ⟨nb, a, g, XS_p hs _ v h3 h4, by rw [← xR_p σ g _ v h4]; exact B⟩)
  rw [xad h4] at h
  exact h
theorem x_cast (hx : p.tables.exec = Jvm.exec) (hb : c.code = cc) (B : xB A s G ad σ H locs) (k : Nat) {n : Nat} {i v : Int32} (h3 : k ≠ 63) (h4 : k ≠ 64) (hk : ∀ nb, (zS nb)[k]? = some (.inl (1, n))) (hin : vp_in i n) (hdg : decode cc pc = .ok (.castore, 1))
    (kk : ∀ (H1 : Heap) (locs1 : List Loc), xB A s G ad (zp σ k i.toNatClampNeg (vp_nar .char v)) H1 locs1 → W p l e R s m args below meth c H1 locs1 cells slots Q (F0 m (pc + 1) ls rest)) : W p l e R s m args below meth c H locs cells slots Q (F0 m pc ls (.int v :: .int i :: .ref (ad k) :: rest)) := by
  obtain ⟨nb, a, g, hs, B⟩ := B
  have h := z_cast (R := R) (below := below) (meth := meth) (cells := cells) (slots := slots) (Q := Q) (ls := ls) (rest := rest) (l := l) (e := e) (m := m) (args := args) hx hb B k (hk nb) hin hdg (fun H1 locs1 B => kk H1 locs1 ⟨nb, a, g, XS_p hs _ _ h3 h4, by rw [← xR_p σ g _ _ h4]; exact B⟩)
  rw [xad h4] at h
  exact h
theorem x_last (hx : p.tables.exec = Jvm.exec) (hb : c.code = cc) (B : xB A s G ad σ H locs) (k : Nat) {n : Nat} {i v : Int32} {z : Int64} (hz : z = v.toInt64) (h3 : k ≠ 63) (h4 : k ≠ 64) (hk : ∀ nb, (zS nb)[k]? = some (.inl (2, n))) (hin : vp_in i n) (hdg : decode cc pc = .ok (.lastore, 1))
    (kk : ∀ (H1 : Heap) (locs1 : List Loc), xB A s G ad (zp σ k i.toNatClampNeg v) H1 locs1 → W p l e R s m args below meth c H1 locs1 cells slots Q (F0 m (pc + 1) ls rest)) : W p l e R s m args below meth c H locs cells slots Q (F0 m pc ls (.long z :: .int i :: .ref (ad k) :: rest)) := by
  obtain ⟨nb, a, g, hs, B⟩ := B
  have h := z_last (R := R) (below := below) (meth := meth) (cells := cells) (slots := slots) (Q := Q) (ls := ls) (rest := rest) (l := l) (e := e) (m := m) (args := args) hx hb B k hz (hk nb) hin hdg (fun H1 locs1 B => kk H1 locs1 ⟨nb, a, g, XS_p hs _ v h3 h4, by rw [← xR_p σ g _ v h4]; exact B⟩)
  rw [xad h4] at h
  exact h
theorem x_copyi (hx : p.tables.exec = Jvm.exec) (hb : c.code = cc) (hml : c.maxLocals = ls.size) {own : String} {index : Nat} {Ts : List Cond} (hts : ∀ w ∈ Ts, w.before args s = true) (hown : s.vm.findClass own = some m.cls) (hlink : Cond.methodLink own index arraycopyName ∈ Ts) (hnat : Cond.native arraycopyName ∈ Ts) (hstat : Cond.static arraycopyName ∈ Ts) (hini : Cond.initialized "java/lang/System" ∈ Ts)
    (B : xB A s G ad σ H locs) (k0 k1 : Nat) {n0 n1 : Nat} {sp dp n : Int32} (h40 : k0 ≠ 64) (h3 : k1 ≠ 63) (h4 : k1 ≠ 64) (hk0 : ∀ nb, (zS nb)[k0]? = some (.inl (0, n0))) (hk1 : ∀ nb, (zS nb)[k1]? = some (.inl (0, n1))) (h1 : ¬ sp < 0) (h2 : ¬ dp < 0) (h3' : ¬ n < 0) (h4' : sp.toNatClampNeg + n.toNatClampNeg ≤ n0) (h5 : dp.toNatClampNeg + n.toNatClampNeg ≤ n1)
    (hframes : 1 ≤ R.frames) (hlocals : (rest.map fun v => v.category).sum + (nativeFrameWords "java/lang/System" "arraycopy" 5 + 11) ≤ R.locals) (hdg : decode cc pc = .ok (.invokestatic index, 3))
    (kk : ∀ (H1 : Heap) (locs1 : List Loc), xB A s G ad (zR σ k1 (va_cpy (σ k0) (σ k1) sp.toNatClampNeg dp.toNatClampNeg n.toNatClampNeg)) H1 locs1 → W p l e R s m args below meth c H1 locs1 cells slots Q (F0 m (pc + 3) ls rest)) : W p l e R s m args below meth c H locs cells slots Q (F0 m pc ls (.int n :: .int dp :: .ref (ad k1) :: .int sp :: .ref (ad k0) :: rest)) := by
  obtain ⟨nb, a, g, hs, B⟩ := B
  have h := z_copyi (R := R) (below := below) (meth := meth) (cells := cells) (slots := slots) (Q := Q) (ls := ls) (rest := rest) (l := l) (e := e) (m := m) (args := args) hx hb hml hts hown hlink hnat hstat hini B k0 k1 (hk0 nb) (hk1 nb) h1 h2 h3' h4' h5 hframes hlocals hdg (fun H1 locs1 B => kk H1 locs1 ⟨nb, a, g, XS_R hs _ h3 h4, by rw [zR_ne σ g h40, zR_ne σ g h4, xR_R σ g _ h4] at B; exact B⟩)
  rw [xad h40, xad h4] at h
  exact h
theorem x_preV {nb a : Nat} {g : Nat → Int32} (B : zB A s G (zS nb) (va_up ad 64 a) (zR σ 64 g) H locs) {C : String} {k ci N : Nat} {T : u_T} {fs : List (Option Nat)} (h4 : k ≠ 64) (hk : ∀ nb, (zS nb)[k]? = some (.inr (ci, fs))) (hc : vwCl[ci]? = some (C, T, N)) {As : List Value} : PreV s H C (ad k) (zPc G (zS nb) (va_up ad 64 a) (zR σ 64 g) H.size (.ref (ad k) :: As)) As := by
  have h := z_preV B (hk nb) hc (As := As)
  rw [xad h4] at h
  exact h
theorem x_i {mc ms : Nat} {av : Array Value} (B : xB A s G ad σ H locs) (hr : ∀ (nb a : Nat) (g : Nat → Int32), XS nb g σ → zB A s G (zS nb) (va_up ad 64 a) (zR σ 64 g) H locs → va_Run p l e R s m args below meth c H locs cells slots mc ms (F0 m pc ls st) rest (va_Qi (fun r' (u : xV) => r' = r ∧ xQ σ' u) (xPost G ad σ' (xA ad a H.size)) (xA ad a H.size) av) (xA ad a H.size))
    (kk : ∀ (H1 : Heap) (locs1 : List Loc), xB A s G ad σ' H1 locs1 → W p l e R s m args below meth c H1 locs1 (cells + mc) (slots + ms) Q (F0 m (pc + 3) ls (.int r :: rest))) : W p l e R s m args below meth c H locs cells slots Q (F0 m pc ls st) := by
  obtain ⟨nb, a, g, hs, B⟩ := B
  refine va_calli (hr nb a g hs B) B.2.2.2.2.1 (fun q _ h => zA_sub B q h) (zA_sub B) (fun r' u t H1 locs1 ht hvm hp hB hz hk hS => ?_)
  obtain ⟨rfl, hq⟩ := hp
  obtain ⟨hP, hD⟩ := hB
  rw [ht] at hP
  exact kk H1 locs1 ⟨u.1, u.2.1, u.2.2, hq, zB_new B hP hD (zA_sub B) hS⟩
theorem x_v {mc ms : Nat} {av : Array Value} (B : xB A s G ad σ H locs) (hr : ∀ (nb a : Nat) (g : Nat → Int32), XS nb g σ → zB A s G (zS nb) (va_up ad 64 a) (zR σ 64 g) H locs → va_Run p l e R s m args below meth c H locs cells slots mc ms (F0 m pc ls st) rest (va_Qv (fun (u : xV) => xQ σ' u) (xPost G ad σ' (xA ad a H.size)) (xA ad a H.size) av) (xA ad a H.size))
    (kk : ∀ (H1 : Heap) (locs1 : List Loc), xB A s G ad σ' H1 locs1 → W p l e R s m args below meth c H1 locs1 (cells + mc) (slots + ms) Q (F0 m (pc + 3) ls rest)) : W p l e R s m args below meth c H locs cells slots Q (F0 m pc ls st) := by
  obtain ⟨nb, a, g, hs, B⟩ := B
  refine va_callv (hr nb a g hs B) B.2.2.2.2.1 (fun q _ h => zA_sub B q h) (zA_sub B) (fun u t H1 locs1 ht hvm hq hB hz hk hS => ?_)
  obtain ⟨hP, hD⟩ := hB
  rw [ht] at hP
  exact kk H1 locs1 ⟨u.1, u.2.1, u.2.2, hq, zB_new B hP hD (zA_sub B) hS⟩
theorem x_r {mc ms k : Nat} {av : Array Value} (B : xB A s G ad σ H locs) (hr : ∀ (nb a : Nat) (g : Nat → Int32), XS nb g σ → zB A s G (zS nb) (va_up ad 64 a) (zR σ 64 g) H locs → va_Run p l e R s m args below meth c H locs cells slots mc ms (F0 m pc ls st) rest (va_Qr (fun (u : xV) => xQ σ' u) (fun u q t => q = ad k ∧ xPost G ad σ' (xA ad a H.size) u t) (xA ad a H.size) av) (xA ad a H.size))
    (kk : ∀ (H1 : Heap) (locs1 : List Loc), xB A s G ad σ' H1 locs1 → W p l e R s m args below meth c H1 locs1 (cells + mc) (slots + ms) Q (F0 m (pc + 3) ls (.ref (ad k) :: rest))) : W p l e R s m args below meth c H locs cells slots Q (F0 m pc ls st) := by
  obtain ⟨nb, a, g, hs, B⟩ := B
  refine va_callr (hr nb a g hs B) B.2.2.2.2.1 (fun q _ h => zA_sub B q h) (zA_sub B) (fun u ra t H1 locs1 ht hvm hq hB hz hk hS => ?_)
  obtain ⟨rfl, hP, hD⟩ := hB
  rw [ht] at hP
  exact kk H1 locs1 ⟨u.1, u.2.1, u.2.2, hq, zB_new B hP hD (zA_sub B) hS⟩
theorem x_xi {mc ms ex : Nat} {av : Array Value} (B : xB A s G ad σ H locs) (hr : ∀ (nb a : Nat) (g : Nat → Int32), XS nb g σ → zB A s G (zS nb) (va_up ad 64 a) (zR σ 64 g) H locs → vx_Run p l e R s m args below meth c H locs cells slots mc ms (F0 m pc ls st) rest (va_Qi (fun r' (u : xV) => (ex = 0 ∧ r' = r) ∧ xQ σ' u) (xPost G ad σ' (xA ad a H.size)) (xA ad a H.size) av) (xXC G ad ex σ' (xA ad a H.size)) (xA ad a H.size))
    (kx : ∀ (H1 : Heap) (locs1 : List Loc) (ce : Cell) (q9 : Addr), ex ≠ 0 → xB A s G ad σ' H1 locs1 → H1[q9]? = some ce → ce.vm = .none → s.vm.findClass (zXn ex) = some ce.cls → vx_W p l e R s m args below meth c H1 locs1 (cells + mc) (slots + ms) Q (F0 m pc ls rest) q9)
    (kk : ∀ (H1 : Heap) (locs1 : List Loc), ex = 0 → xB A s G ad σ' H1 locs1 → W p l e R s m args below meth c H1 locs1 (cells + mc) (slots + ms) Q (F0 m (pc + 3) ls (.int r :: rest))) : W p l e R s m args below meth c H locs cells slots Q (F0 m pc ls st) := by
  obtain ⟨nb, a, g, hs, B⟩ := B
  refine vx_calli (hr nb a g hs B) B.2.2.2.2.1 (fun q _ h => zA_sub B q h) (zA_sub B) (fun q _ h => zA_sub B q h) (fun E ce q9 u t H1 locs1 ht hvm hq hB hz hk hS h1 h2 h3 => ?_) (fun r' u t H1 locs1 ht hvm hp hB hz hk hS => ?_)
  · obtain ⟨h0, rfl, hP, hD⟩ := hB
    rw [ht] at hP
    exact kx H1 locs1 ce q9 h0 ⟨u.1, u.2.1, u.2.2, hq, zB_new B hP hD (zA_sub B) hS⟩ h1 h2 h3
  · obtain ⟨⟨h0, rfl⟩, hq⟩ := hp
    obtain ⟨hP, hD⟩ := hB
    rw [ht] at hP
    exact kk H1 locs1 h0 ⟨u.1, u.2.1, u.2.2, hq, zB_new B hP hD (zA_sub B) hS⟩
theorem x_xv {mc ms ex : Nat} {av : Array Value} (B : xB A s G ad σ H locs) (hr : ∀ (nb a : Nat) (g : Nat → Int32), XS nb g σ → zB A s G (zS nb) (va_up ad 64 a) (zR σ 64 g) H locs → vx_Run p l e R s m args below meth c H locs cells slots mc ms (F0 m pc ls st) rest (va_Qv (fun (u : xV) => ex = 0 ∧ xQ σ' u) (xPost G ad σ' (xA ad a H.size)) (xA ad a H.size) av) (xXC G ad ex σ' (xA ad a H.size)) (xA ad a H.size))
    (kx : ∀ (H1 : Heap) (locs1 : List Loc) (ce : Cell) (q9 : Addr), ex ≠ 0 → xB A s G ad σ' H1 locs1 → H1[q9]? = some ce → ce.vm = .none → s.vm.findClass (zXn ex) = some ce.cls → vx_W p l e R s m args below meth c H1 locs1 (cells + mc) (slots + ms) Q (F0 m pc ls rest) q9)
    (kk : ∀ (H1 : Heap) (locs1 : List Loc), ex = 0 → xB A s G ad σ' H1 locs1 → W p l e R s m args below meth c H1 locs1 (cells + mc) (slots + ms) Q (F0 m (pc + 3) ls rest)) : W p l e R s m args below meth c H locs cells slots Q (F0 m pc ls st) := by
  obtain ⟨nb, a, g, hs, B⟩ := B
  refine vx_callv (hr nb a g hs B) B.2.2.2.2.1 (fun q _ h => zA_sub B q h) (zA_sub B) (fun q _ h => zA_sub B q h) (fun E ce q9 u t H1 locs1 ht hvm hq hB hz hk hS h1 h2 h3 => ?_) (fun u t H1 locs1 ht hvm hp hB hz hk hS => ?_)
  · obtain ⟨h0, rfl, hP, hD⟩ := hB
    rw [ht] at hP
    exact kx H1 locs1 ce q9 h0 ⟨u.1, u.2.1, u.2.2, hq, zB_new B hP hD (zA_sub B) hS⟩ h1 h2 h3
  · obtain ⟨hP, hD⟩ := hB
    rw [ht] at hP
    exact kk H1 locs1 hp.1 ⟨u.1, u.2.1, u.2.2, hp.2, zB_new B hP hD (zA_sub B) hS⟩
/-- the ends -/
theorem x_iret (hx : p.tables.exec = Jvm.exec) (hb : c.code = cc) {ty : FieldType} (hr : meth.sig.returnType = some ty) (hn : narrow ty (.int xv) = .int xv) (hlocks : meth.locks = false) (B : xB A s G ad σ H locs) (hf : some (xv, σ) = some (r, σ')) (hd : decode cc pc = .ok (.ireturn, 1)) :
    W p l e R s m args below meth c H locs cells slots (MQ below (va_Qi (fun r' (u : xV) => r' = r ∧ xQ σ' u) (xPost G ad σ' A) A) args s cells slots A) (F0 m pc ls [.int xv]) := by
  cases hf
  obtain ⟨nb, a, g, hs, B⟩ := B
  refine W.zret hx hb hr hn (fun t ht _ => ⟨⟨_, (nb, a, g), rfl, ⟨rfl, hs⟩, ?_, B.2.2.2.1⟩, B.2.2.2.2.1.F ht⟩) B.2.2.2.2.1.2.2 hd hlocks
  show va_P _ _ _ t.heap
  rw [ht]; exact B.2.2.1
theorem x_vret (hx : p.tables.exec = Jvm.exec) (hb : c.code = cc) (hr : meth.sig.returnType = none) (hlocks : meth.locks = false) (B : xB A s G ad σ H locs) (hf : some (xv, σ) = some (r, σ')) (hd : decode cc pc = .ok (.return_, 1)) :
    W p l e R s m args below meth c H locs cells slots (MQ below (va_Qv (fun (u : xV) => xQ σ' u) (xPost G ad σ' A) A) args s cells slots A) (F0 m pc ls []) := by
  cases hf
  obtain ⟨nb, a, g, hs, B⟩ := B
  refine W.vret hx hb hr (fun t ht _ => ⟨⟨(nb, a, g), rfl, hs, ?_, B.2.2.2.1⟩, B.2.2.2.2.1.F ht⟩) B.2.2.2.2.1.2.2 hd hlocks
  show va_P _ _ _ t.heap
  rw [ht]; exact B.2.2.1
theorem x_aret (hx : p.tables.exec = Jvm.exec) (hb : c.code = cc) {rt : FieldType} (hr : meth.sig.returnType = some rt) (hrt : (∃ n, rt = .object n) ∨ ∃ t, rt = .array t) (hlocks : meth.locks = false) {k : Nat} (B : xB A s G ad σ H locs) (hf : some (xv, σ) = some (r, σ')) (hd : decode cc pc = .ok (.areturn, 1)) :
    W p l e R s m args below meth c H locs cells slots (MQ below (va_Qr (fun (u : xV) => xQ σ' u) (fun u q t => q = ad k ∧ xPost G ad σ' A u t) A) args s cells slots A) (F0 m pc ls [.ref (ad k)]) := by
  cases hf
  obtain ⟨nb, a, g, hs, B⟩ := B
  refine W.aret hx hb hr hrt (Or.inr ⟨_, rfl⟩) (fun t ht _ => ⟨⟨(nb, a, g), ad k, rfl, hs, rfl, ?_, B.2.2.2.1⟩, B.2.2.2.2.1.F ht⟩) B.2.2.2.2.1.2.2 hd hlocks
  show va_P _ _ _ t.heap
  rw [ht]; exact B.2.2.1
theorem x_xiret {ex : Nat} (hx : p.tables.exec = Jvm.exec) (hb : c.code = cc) {ty : FieldType} (hr : meth.sig.returnType = some ty) (hn : narrow ty (.int xv) = .int xv) (hlocks : meth.locks = false) (B : xB A s G ad σ H locs) (hf : some ((0 : Nat), xv, σ) = some (ex, r, σ')) (hd : decode cc pc = .ok (.ireturn, 1)) :
    W p l e R s m args below meth c H locs cells slots (vx_MQ below (va_Qi (fun r' (u : xV) => (ex = 0 ∧ r' = r) ∧ xQ σ' u) (xPost G ad σ' A) A) (xXC G ad ex σ' A) args s cells slots A) (F0 m pc ls [.int xv]) := by
  cases hf
  obtain ⟨nb, a, g, hs, B⟩ := B
  refine vx_ret (W.zret hx hb hr hn (fun t ht _ => ⟨⟨_, (nb, a, g), rfl, ⟨⟨rfl, rfl⟩, hs⟩, ?_, B.2.2.2.1⟩, B.2.2.2.2.1.F ht⟩) B.2.2.2.2.1.2.2 hd hlocks)
  show va_P _ _ _ t.heap
  rw [ht]; exact B.2.2.1
theorem x_xvret {ex : Nat} (hx : p.tables.exec = Jvm.exec) (hb : c.code = cc) (hr : meth.sig.returnType = none) (hlocks : meth.locks = false) (B : xB A s G ad σ H locs) (hf : some ((0 : Nat), xv, σ) = some (ex, r, σ')) (hd : decode cc pc = .ok (.return_, 1)) :
    W p l e R s m args below meth c H locs cells slots (vx_MQ below (va_Qv (fun (u : xV) => ex = 0 ∧ xQ σ' u) (xPost G ad σ' A) A) (xXC G ad ex σ' A) args s cells slots A) (F0 m pc ls []) := by
  cases hf
  obtain ⟨nb, a, g, hs, B⟩ := B
  refine vx_ret (W.vret hx hb hr (fun t ht _ => ⟨⟨(nb, a, g), rfl, ⟨rfl, hs⟩, ?_, B.2.2.2.1⟩, B.2.2.2.2.1.F ht⟩) B.2.2.2.2.1.2.2 hd hlocks)
  show va_P _ _ _ t.heap
  rw [ht]; exact B.2.2.1
theorem x_xout {ex : Nat} {Qc : Array Value → State → Outcome → State → Prop} {e1 mc ms : Nat} (hno : ∀ x ∈ c.exceptionTable.toList, False) (hlocks : meth.locks = false) (hf : (ex, r, σ') = (e1, (0 : Int32), τ)) (h0 : e1 ≠ 0) (B : xB A s G ad τ H locs) {ce : Cell} {q9 : Addr} (k1 : H[q9]? = some ce) (k2 : ce.vm = .none) (k3 : s.vm.findClass (zXn e1) = some ce.cls) (hc : cells ≤ mc) (hs9 : slots ≤ ms) :
    vx_W p l e R s m args below meth c H locs cells slots (vx_MQ below Qc (xXC G ad ex σ' A) args s mc ms A) (F0 m pc ls rest) q9 := by
  cases hf
  obtain ⟨nb, a, g, hs, B⟩ := B
  refine vx_out (fun x hx => absurd (hno x hx) id) hlocks k1 k2 k3 (fun t ht _ => ⟨(nb, a, g), hs, ⟨h0, rfl, ?_, B.2.2.2.1⟩, B.2.2.2.2.1.F ht⟩) B.2.2.2.2.1.2.2 hc hs9
  show va_P _ _ _ t.heap
  rw [ht]; exact B.2.2.1
theorem x_nest (B : xB A s G ad σ H locs) {q : String × Nat × MethodName} (hq : q ∈ zNest) : va_Nw (.methodLinkNest q.1 q.2.1 q.2.2 RX8) s := (xT B).nest q hq
theorem x_cs (B : xB A s G ad σ H locs) (h : ∀ (nb a : Nat) (g : Nat → Int32), XS nb g σ → zB A s G (zS nb) (va_up ad 64 a) (zR σ 64 g) H locs → W p l e R s m args below meth c H locs cells slots Q (F0 m pc ls st)) : W p l e R s m args below meth c H locs cells slots Q (F0 m pc ls st) := by
  obtain ⟨nb, a, g, hs, B⟩ := B
  exact h nb a g hs B
end XR
