/-! the language of the functions that the bytecode is turned into -/
def zin (i : Int32) (n : Nat) : Bool := decide (0 ≤ i) && decide (i.toNatClampNeg < n)
theorem zin_ok {i : Int32} {n : Nat} (h : zin i n = true) : vp_in i n := by
  simp only [zin, Bool.and_eq_true, decide_eq_true_eq] at h
  intro q
  rcases q with q | q
  · have h0 := h.1
    rw [Int32.le_iff_toInt_le] at h0
    rw [Int32.lt_iff_toInt_lt] at q
    omega
  · omega
def zg {α : Type} (b : Bool) (t : Option α) : Option α := match b with
  | true => t
  | false => none
theorem zg_some {α : Type} {b : Bool} {t : Option α} {o : α} (h : zg b t = some o) : b = true ∧ t = some o := by
  cases b with
  | false => cases h
  | true => exact ⟨rfl, h⟩
def zb {α : Type} (x : Option (Int32 × zs)) (f : Int32 → zs → Option α) : Option α := match x with
  | none => none
  | some (r, σ) => f r σ
theorem zb_some {α : Type} {x : Option (Int32 × zs)} {f : Int32 → zs → Option α} {o : α} (h : zb x f = some o) : ∃ r σ, x = some (r, σ) ∧ f r σ = some o := by
  cases x with
  | none => cases h
  | some p => exact ⟨p.1, p.2, rfl, h⟩
abbrev zO : Type := Nat × Int32 × zs
def zx (x : Option zO) (f : Int32 → zs → Option zO) : Option zO := match x with
  | none => none
  | some (0, r, σ) => f r σ
  | some (e + 1, _, σ) => some (e + 1, 0, σ)
theorem zx_some {x : Option zO} {f : Int32 → zs → Option zO} {o : zO} (h : zx x f = some o) : ∃ e r σ, x = some (e, r, σ) ∧ ((e = 0 ∧ f r σ = some o) ∨ (e ≠ 0 ∧ o = (e, 0, σ))) := by
  cases x with
  | none => cases h
  | some p =>
    obtain ⟨e, r, σ⟩ := p
    cases e with
    | zero => exact ⟨0, r, σ, rfl, Or.inl ⟨rfl, h⟩⟩
    | succ e => exact ⟨e + 1, r, σ, rfl, Or.inr ⟨Nat.succ_ne_zero e, (Option.some.inj h).symm⟩⟩
theorem zx_ok {e : Nat} {p q : Prop} (h : (e = 0 ∧ p) ∨ (e ≠ 0 ∧ q)) (h0 : e = 0) : p := by
  rcases h with h | h
  · exact h.2
  · exact absurd h0 h.1
theorem zx_no {e : Nat} {p q : Prop} (h : (e = 0 ∧ p) ∨ (e ≠ 0 ∧ q)) (h0 : e ≠ 0) : q := by
  rcases h with h | h
  · exact absurd h.1 h0
  · exact h.2
/-- a call whose exceptions are caught -/
def zc {α : Type} (x : Option zO) (f : Int32 → zs → Option α) (g : Nat → zs → Option α) : Option α := match x with
  | none => none
  | some (0, r, σ) => f r σ
  | some (e + 1, _, σ) => g (e + 1) σ
theorem zc_some {α : Type} {x : Option zO} {f : Int32 → zs → Option α} {g : Nat → zs → Option α} {o : α} (h : zc x f g = some o) : ∃ e r σ, x = some (e, r, σ) ∧ ((e = 0 ∧ f r σ = some o) ∨ (e ≠ 0 ∧ g e σ = some o)) := by
  cases x with
  | none => cases h
  | some p =>
    obtain ⟨e, r, σ⟩ := p
    cases e with
    | zero => exact ⟨0, r, σ, rfl, Or.inl ⟨rfl, h⟩⟩
    | succ e => exact ⟨e + 1, r, σ, rfl, Or.inr ⟨Nat.succ_ne_zero e, h⟩⟩
/-- a value with a name -/
def zl {α : Type} (v : Int32) (f : Int32 → Option α) : Option α := f v
theorem zif_t {α : Sort _} {c : Prop} [Decidable c] {a b o : α} (h : c) (hf : (if c then a else b) = o) : a = o := by rw [if_pos h] at hf; exact hf
theorem zif_f {α : Sort _} {c : Prop} [Decidable c] {a b o : α} (h : ¬ c) (hf : (if c then a else b) = o) : b = o := by rw [if_neg h] at hf; exact hf
theorem zc1 {x a b : Int32} (h : a = b) : x + a = x + b := by rw [h]
/-- loops with fuel, by the number of their variables -/
def zlp0 {o : Type} (f : (zs → Option o) → zs → Option o) : Nat → zs → Option o
  | 0, _ => none
  | n + 1, σ => f (zlp0 f n) σ
def zlp1 {o : Type} (f : (zs → Int32 → Option o) → zs → Int32 → Option o) : Nat → zs → Int32 → Option o
  | 0, _, _ => none
  | n + 1, σ, a => f (zlp1 f n) σ a
def zlp2 {o : Type} (f : (zs → Int32 → Int32 → Option o) → zs → Int32 → Int32 → Option o) : Nat → zs → Int32 → Int32 → Option o
  | 0, _, _, _ => none
  | n + 1, σ, a, b => f (zlp2 f n) σ a b
def zlp3 {o : Type} (f : (zs → Int32 → Int32 → Int32 → Option o) → zs → Int32 → Int32 → Int32 → Option o) : Nat → zs → Int32 → Int32 → Int32 → Option o
  | 0, _, _, _, _ => none
  | n + 1, σ, a, b, c => f (zlp3 f n) σ a b c
def zlp4 {o : Type} (f : (zs → Int32 → Int32 → Int32 → Int32 → Option o) → zs → Int32 → Int32 → Int32 → Int32 → Option o) : Nat → zs → Int32 → Int32 → Int32 → Int32 → Option o
  | 0, _, _, _, _, _ => none
  | n + 1, σ, a, b, c, d => f (zlp4 f n) σ a b c d
def zlp5 {o : Type} (f : (zs → Int32 → Int32 → Int32 → Int32 → Int32 → Option o) → zs → Int32 → Int32 → Int32 → Int32 → Int32 → Option o) : Nat → zs → Int32 → Int32 → Int32 → Int32 → Int32 → Option o
  | 0, _, _, _, _, _, _ => none
  | n + 1, σ, a, b, c, d, e => f (zlp5 f n) σ a b c d e
def zlp6 {o : Type} (f : (zs → Int32 → Int32 → Int32 → Int32 → Int32 → Int32 → Option o) → zs → Int32 → Int32 → Int32 → Int32 → Int32 → Int32 → Option o) : Nat → zs → Int32 → Int32 → Int32 → Int32 → Int32 → Int32 → Option o
  | 0, _, _, _, _, _, _, _ => none
  | n + 1, σ, a, b, c, d, e, g => f (zlp6 f n) σ a b c d e g
def zlp7 {o : Type} (f : (zs → Int32 → Int32 → Int32 → Int32 → Int32 → Int32 → Int32 → Option o) → zs → Int32 → Int32 → Int32 → Int32 → Int32 → Int32 → Int32 → Option o) : Nat → zs → Int32 → Int32 → Int32 → Int32 → Int32 → Int32 → Int32 → Option o
  | 0, _, _, _, _, _, _, _, _ => none
  | n + 1, σ, a, b, c, d, e, g, h => f (zlp7 f n) σ a b c d e g h
/-- a table switch: outside of all its cases -/
theorem zsw_out {x : Int32} {lo hi : Int} (h : ∀ j : Int, lo ≤ j → j ≤ hi → x.toInt ≠ j) : x.toInt < lo ∨ hi < x.toInt := by
  rcases Int.lt_or_le x.toInt lo with a | a
  · exact Or.inl a
  · rcases Int.lt_or_le hi x.toInt with b | b
    · exact Or.inr b
    · exact absurd rfl (h x.toInt a b)
section ZE
variable {p : Program} {l : Launch} {e : Env} {R : Room} {s : State} {m : MethodId} {args : Array Value} {below : List Frame} {meth : Method} {c : Code} {H : Heap} {locs : List Loc} {cells slots : Nat} {Q : State → Prop}
variable {cc bytes : ByteArray} {pc : Nat} {ls : Array Slot} {rest st : List Value} {A : Nat → Prop} {G : zG} {S : List zh} {ad : Nat → Nat} {σ σ' τ : zs} {r x : Int32}
/-- the ends of a body -/
theorem z_iret (hx : p.tables.exec = Jvm.exec) (hb : c.code = cc) {ty : FieldType} (hr : meth.sig.returnType = some ty) (hn : narrow ty (.int x) = .int x) (hlocks : meth.locks = false) (B : zB A s G S ad σ H locs) (hf : some (x, σ) = some (r, σ')) (hd : decode cc pc = .ok (.ireturn, 1)) :
    W p l e R s m args below meth c H locs cells slots (MQ below (va_Qi (fun r' (_ : Unit) => r' = r) (zPost G S ad σ') A) args s cells slots A) (F0 m pc ls [.int x]) := by
  cases hf
  refine W.zret hx hb hr hn (fun t ht _ => ⟨⟨_, (), rfl, rfl, ?_⟩, B.2.2.2.2.1.F ht⟩) B.2.2.2.2.1.2.2 hd hlocks
  show va_P _ _ _ t.heap
  rw [ht]; exact B.2.2.1
theorem z_vret (hx : p.tables.exec = Jvm.exec) (hb : c.code = cc) (hr : meth.sig.returnType = none) (hlocks : meth.locks = false) (B : zB A s G S ad σ H locs) (hf : some (x, σ) = some (r, σ')) (hd : decode cc pc = .ok (.return_, 1)) :
    W p l e R s m args below meth c H locs cells slots (MQ below (va_Qv (fun (_ : Unit) => True) (zPost G S ad σ') A) args s cells slots A) (F0 m pc ls []) := by
  cases hf
  refine W.vret hx hb hr (fun t ht _ => ⟨⟨(), rfl, trivial, ?_⟩, B.2.2.2.2.1.F ht⟩) B.2.2.2.2.1.2.2 hd hlocks
  show va_P _ _ _ t.heap
  rw [ht]; exact B.2.2.1
theorem z_aret (hx : p.tables.exec = Jvm.exec) (hb : c.code = cc) {rt : FieldType} (hr : meth.sig.returnType = some rt) (hrt : (∃ n, rt = .object n) ∨ ∃ t, rt = .array t) (hlocks : meth.locks = false) {k : Nat} (B : zB A s G S ad σ H locs) (hf : some (x, σ) = some (r, σ')) (hd : decode cc pc = .ok (.areturn, 1)) :
    W p l e R s m args below meth c H locs cells slots (MQ below (va_Qr (fun (_ : Unit) => True) (fun u a t => a = ad k ∧ zPost G S ad σ' u t) A) args s cells slots A) (F0 m pc ls [.ref (ad k)]) := by
  cases hf
  refine W.aret hx hb hr hrt (Or.inr ⟨_, rfl⟩) (fun t ht _ => ⟨⟨(), ad k, rfl, trivial, rfl, ?_⟩, B.2.2.2.2.1.F ht⟩) B.2.2.2.2.1.2.2 hd hlocks
  show va_P _ _ _ t.heap
  rw [ht]; exact B.2.2.1
theorem z_xiret {ex : Nat} (hx : p.tables.exec = Jvm.exec) (hb : c.code = cc) {ty : FieldType} (hr : meth.sig.returnType = some ty) (hn : narrow ty (.int x) = .int x) (hlocks : meth.locks = false) (B : zB A s G S ad σ H locs) (hf : some ((0 : Nat), x, σ) = some (ex, r, σ')) (hd : decode cc pc = .ok (.ireturn, 1)) :
    W p l e R s m args below meth c H locs cells slots (vx_MQ below (va_Qi (fun r' (_ : Unit) => ex = 0 ∧ r' = r) (zPost G S ad σ') A) (zXC G S ad ex σ' A) args s cells slots A) (F0 m pc ls [.int x]) := by
  cases hf
  refine vx_ret (W.zret hx hb hr hn (fun t ht _ => ⟨⟨_, (), rfl, ⟨rfl, rfl⟩, ?_⟩, B.2.2.2.2.1.F ht⟩) B.2.2.2.2.1.2.2 hd hlocks)
  show va_P _ _ _ t.heap
  rw [ht]; exact B.2.2.1
theorem z_xvret {ex : Nat} (hx : p.tables.exec = Jvm.exec) (hb : c.code = cc) (hr : meth.sig.returnType = none) (hlocks : meth.locks = false) (B : zB A s G S ad σ H locs) (hf : some ((0 : Nat), x, σ) = some (ex, r, σ')) (hd : decode cc pc = .ok (.return_, 1)) :
    W p l e R s m args below meth c H locs cells slots (vx_MQ below (va_Qv (fun (_ : Unit) => ex = 0) (zPost G S ad σ') A) (zXC G S ad ex σ' A) args s cells slots A) (F0 m pc ls []) := by
  cases hf
  refine vx_ret (W.vret hx hb hr (fun t ht _ => ⟨⟨(), rfl, rfl, ?_⟩, B.2.2.2.2.1.F ht⟩) B.2.2.2.2.1.2.2 hd hlocks)
  show va_P _ _ _ t.heap
  rw [ht]; exact B.2.2.1
/-- an exception of a callee leaves -/
theorem z_xout {ex : Nat} {Qc : Array Value → State → Outcome → State → Prop} {e1 mc ms : Nat} (hno : ∀ x ∈ c.exceptionTable.toList, False) (hlocks : meth.locks = false) (hf : (ex, r, σ') = (e1, (0 : Int32), τ)) (h0 : e1 ≠ 0) (B : zB A s G S ad τ H locs) {ce : Cell} {q9 : Addr} (k1 : H[q9]? = some ce) (k2 : ce.vm = .none) (k3 : s.vm.findClass (zXn e1) = some ce.cls) (hc : cells ≤ mc) (hs : slots ≤ ms) :
    vx_W p l e R s m args below meth c H locs cells slots (vx_MQ below Qc (zXC G S ad ex σ' A) args s mc ms A) (F0 m pc ls rest) q9 := by
  cases hf
  refine vx_out (fun x hx => absurd (hno x hx) id) hlocks k1 k2 k3 (fun t ht _ => ⟨(), trivial, ⟨h0, rfl, ?_⟩, B.2.2.2.2.1.F ht⟩) B.2.2.2.2.1.2.2 hc hs
  show va_P _ _ _ t.heap
  rw [ht]; exact B.2.2.1
end ZE
/-- System.arraycopy's checks -/
def zcp (sp dp n : Int32) (n0 n1 : Nat) : Bool := decide (0 ≤ sp) && decide (0 ≤ dp) && decide (0 ≤ n) && decide (sp.toNatClampNeg + n.toNatClampNeg ≤ n0) && decide (dp.toNatClampNeg + n.toNatClampNeg ≤ n1)
theorem z_not_lt {a b : Int32} (h : a ≤ b) : ¬ b < a := by
  intro q
  rw [Int32.le_iff_toInt_le] at h
  rw [Int32.lt_iff_toInt_lt] at q
  omega
theorem zcp_ok {sp dp n : Int32} {n0 n1 : Nat} (h : zcp sp dp n n0 n1 = true) : ¬ sp < 0 ∧ ¬ dp < 0 ∧ ¬ n < 0 ∧ sp.toNatClampNeg + n.toNatClampNeg ≤ n0 ∧ dp.toNatClampNeg + n.toNatClampNeg ≤ n1 := by
  simp only [zcp, Bool.and_eq_true, decide_eq_true_eq] at h
  obtain ⟨⟨⟨⟨h1, h2⟩, h3⟩, h4⟩, h5⟩ := h
  exact ⟨z_not_lt h1, z_not_lt h2, z_not_lt h3, h4, h5⟩
theorem znz {v : Int32} (h : (v &&& 1 == v) = true) : narrow .boolean (.int v) = .int v := by
  have h1 : v &&& 1 = v := by simpa using h
  show Value.int (v &&& 1) = .int v
  rw [h1]
theorem z_nest {A : Nat → Prop} {s : State} {G : zG} {S : List zh} {ad : Nat → Nat} {σ : zs} {H : Heap} {locs : List Loc} (B : zB A s G S ad σ H locs) {q : String × Nat × MethodName} (hq : q ∈ zNest) : va_Nw (.methodLinkNest q.1 q.2.1 q.2.2 RX8) s := B.2.2.2.2.2.1 q hq
theorem zl_at {α : Type} {w v : Int32} {f : Int32 → Option α} {o : α} (h : w = v) (hf : zl v f = some o) : f w = some o := by subst h; exact hf
/-- a body with handlers, whose contract throws nothing -/
theorem z_ofWH {l : Launch} {y : MethodName} {ws ws' : List Cond} {rm : Room} {Pc : Array Value → State → Prop} {Qc : Array Value → State → Outcome → State → Prop} {mc ms : Nat} {free : Addr → Prop} {cc : ByteArray} {maxL : Nat} {ret : Option FieldType} {hh : List (Nat × Nat × Nat × Nat)}
    (hy : plainName y.cls = true) (hw : ws = Cond.codeWith y cc maxL ret hh :: ws')
    (body : ∀ p e s m args below meth c s₁, BodyLoose p l y (headSpec ws rm) cc maxL ret e s m args below meth c s₁ → c.maxLocals = maxL → Pc args s →
      W p l e (headSpec ws rm).room s m args below meth c s.heap [] 0 0 (MQ below Qc args s mc ms free) (entryFrame m args maxL)) : Met l y ws rm Pc Qc mc ms free := by
  refine MetFree.of_bodyS (code := cc) (maxLocals := maxL) (ret := ret) hy ?_ ?_
  · intro args s m h hn
    obtain ⟨m9, meth, c, hn9, h1, h2, h3, h4, -, h5, h6, -⟩ := Cond.codeWith_spec (atoms_spec (ws := ws) h _ (by rw [hw]; exact List.mem_cons_self))
    cases hn.symm.trans hn9
    exact ⟨meth, c, h1, h2, h3, h4, h5, h6⟩
  · intro p e s m args below meth c s₁ B hml hP _
    have hh0 : s₁.heap = s.heap := by rw [B.state]; rfl
    obtain ⟨t, a1, o, b1, b2, b3⟩ := body p e s m args below meth c s₁ B hml hP s₁ hh0 (Stand.of_body B)
    exact ⟨t, o, a1, b1, b2, b3⟩
section ZX
variable {p : Program} {l : Launch} {e : Env} {R : Room} {s : State} {m : MethodId} {args : Array Value} {below : List Frame} {meth : Method} {c : Code} {H : Heap} {locs : List Loc} {cells slots : Nat} {Q : State → Prop}
variable {cc : ByteArray} {pc : Nat} {ls : Array Slot} {rest : List Value} {A : Nat → Prop} {G : zG} {S : List zh} {ad : Nat → Nat} {σ : zs}
/-- the letters: their text, its fields, its bytes -/
theorem z_letv (hx : p.tables.exec = Jvm.exec) (hb : c.code = cc) {own ref : String} {index : Nat} {Ts : List Cond} (hts : ∀ w ∈ Ts, w.before args s = true) (hown : s.vm.findClass own = some m.cls) (B : zB A s G S ad σ H locs) (hlink : Cond.fieldLink own index ref "value" "[B" ∈ Ts) (hr : ref = "java/lang/String") (hdg : decode cc pc = .ok (.getfield index, 3))
    (kk : W p l e R s m args below meth c H locs cells slots Q (F0 m (pc + 3) ls (.ref (G.2 5) :: rest))) : W p l e R s m args below meth c H locs cells slots Q (F0 m pc ls (.ref (G.2 4) :: rest)) := by
  subst hr
  exact vk_getf hx hb (B.2.2.2.2.2.lets.1 0 (by decide)).2.2.1 B.2.2.2.2.1 hown (hts _ hlink) (fun _ h => h) hdg kk
theorem z_letc (hx : p.tables.exec = Jvm.exec) (hb : c.code = cc) {own ref : String} {index : Nat} {Ts : List Cond} (hts : ∀ w ∈ Ts, w.before args s = true) (hown : s.vm.findClass own = some m.cls) (B : zB A s G S ad σ H locs) (hlink : Cond.fieldLink own index ref "coder" "B" ∈ Ts) (hr : ref = "java/lang/String") (hdg : decode cc pc = .ok (.getfield index, 3))
    (kk : W p l e R s m args below meth c H locs cells slots Q (F0 m (pc + 3) ls (.int 0 :: rest))) : W p l e R s m args below meth c H locs cells slots Q (F0 m pc ls (.ref (G.2 4) :: rest)) := by
  subst hr
  exact vk_getf hx hb (B.2.2.2.2.2.lets.1 0 (by decide)).2.1 B.2.2.2.2.1 hown (hts _ hlink) (fun _ h => h) hdg kk
theorem z_letb (hx : p.tables.exec = Jvm.exec) (hb : c.code = cc) (B : zB A s G S ad σ H locs) {i : Int32} (hin : vp_in i 5) (hdg : decode cc pc = .ok (.baload, 1))
    (kk : W p l e R s m args below meth c H locs cells slots Q (F0 m (pc + 1) ls (.int (zLet.getD i.toNatClampNeg 0) :: rest))) : W p l e R s m args below meth c H locs cells slots Q (F0 m pc ls (.int i :: .ref (G.2 5) :: rest)) :=
  va_tb hx hb (B.2.2.2.2.2.lets.1 0 (by decide)).2.2.2 B.2.2.2.2.1 hin rfl hdg kk
theorem z_letl (hx : p.tables.exec = Jvm.exec) (hb : c.code = cc) (B : zB A s G S ad σ H locs) (hdg : decode cc pc = .ok (.arraylength, 1))
    (kk : W p l e R s m args below meth c H locs cells slots Q (F0 m (pc + 1) ls (.int 5 :: rest))) : W p l e R s m args below meth c H locs cells slots Q (F0 m pc ls (.ref (G.2 5) :: rest)) :=
  va_tlen hx hb (B.2.2.2.2.2.lets.1 0 (by decide)).2.2.2 B.2.2.2.2.1 rfl hdg kk
/-- the table of greatest numbers -/
theorem z_greg (hx : p.tables.exec = Jvm.exec) (hb : c.code = cc) (hown : s.vm.findClass RX1 = some m.cls) (B : zB A s G S ad σ H locs) (hdg : decode cc pc = .ok (.getstatic 58, 3))
    (kk : W p l e R s m args below meth c H locs cells slots Q (F0 m (pc + 3) ls (.ref (G.2 6) :: rest))) : W p l e R s m args below meth c H locs cells slots Q (F0 m pc ls rest) :=
  va_getsN hx hb B.2.2.2.2.2.gre.1 B.2.2.2.2.1 hown (B.2.2.2.2.2.grel.use rfl) (fun _ h => h) hdg kk
theorem z_grei (hx : p.tables.exec = Jvm.exec) (hb : c.code = cc) (B : zB A s G S ad σ H locs) {i : Int32} (hin : vp_in i 5) (hdg : decode cc pc = .ok (.iaload, 1))
    (kk : W p l e R s m args below meth c H locs cells slots Q (F0 m (pc + 1) ls (.int (zGre.getD i.toNatClampNeg 0) :: rest))) : W p l e R s m args below meth c H locs cells slots Q (F0 m pc ls (.int i :: .ref (G.2 6) :: rest)) :=
  va_ti hx hb B.2.2.2.2.2.gre.2 B.2.2.2.2.1 hin rfl hdg kk
theorem z_comp (hx : p.tables.exec = Jvm.exec) (hb : c.code = cc) {own ref : String} {index : Nat} {Ts : List Cond} (hts : ∀ w ∈ Ts, w.before args s = true) (hown : s.vm.findClass own = some m.cls) (B : zB A s G S ad σ H locs) (hlink : Cond.fieldLink own index ref "COMPACT_STRINGS" "Z" ∈ Ts) (hr : ref = "java/lang/String") (hdg : decode cc pc = .ok (.getstatic index, 3))
    (kk : W p l e R s m args below meth c H locs cells slots Q (F0 m (pc + 3) ls (.int 1 :: rest))) : W p l e R s m args below meth c H locs cells slots Q (F0 m pc ls rest) := by
  subst hr
  exact va_gets hx hb B.2.2.2.2.2.comp B.2.2.2.2.1 hown (hts _ hlink) (fun _ h => h) hdg kk
theorem z_tens (hx : p.tables.exec = Jvm.exec) (hb : c.code = cc) {own ref : String} {index : Nat} {Ts : List Cond} (hts : ∀ w ∈ Ts, w.before args s = true) (hown : s.vm.findClass own = some m.cls) (B : zB A s G S ad σ H locs) (hlink : Cond.fieldLink own index ref "DigitTens" "[B" ∈ Ts) (hr : ref = "java/lang/Integer") (hdg : decode cc pc = .ok (.getstatic index, 3))
    (kk : W p l e R s m args below meth c H locs cells slots Q (F0 m (pc + 3) ls (.ref (G.2 7) :: rest))) : W p l e R s m args below meth c H locs cells slots Q (F0 m pc ls rest) := by
  subst hr
  exact va_gets hx hb B.2.2.2.2.2.tens.1 B.2.2.2.2.1 hown (hts _ hlink) (fun _ h => h) hdg kk
theorem z_ones (hx : p.tables.exec = Jvm.exec) (hb : c.code = cc) {own ref : String} {index : Nat} {Ts : List Cond} (hts : ∀ w ∈ Ts, w.before args s = true) (hown : s.vm.findClass own = some m.cls) (B : zB A s G S ad σ H locs) (hlink : Cond.fieldLink own index ref "DigitOnes" "[B" ∈ Ts) (hr : ref = "java/lang/Integer") (hdg : decode cc pc = .ok (.getstatic index, 3))
    (kk : W p l e R s m args below meth c H locs cells slots Q (F0 m (pc + 3) ls (.ref (G.2 8) :: rest))) : W p l e R s m args below meth c H locs cells slots Q (F0 m pc ls rest) := by
  subst hr
  exact va_gets hx hb B.2.2.2.2.2.ones.1 B.2.2.2.2.1 hown (hts _ hlink) (fun _ h => h) hdg kk
theorem z_tensb (hx : p.tables.exec = Jvm.exec) (hb : c.code = cc) (B : zB A s G S ad σ H locs) {i : Int32} (hin : vp_in i 100) (hdg : decode cc pc = .ok (.baload, 1))
    (kk : W p l e R s m args below meth c H locs cells slots Q (F0 m (pc + 1) ls (.int (nI (48 + i.toNatClampNeg / 10)) :: rest))) : W p l e R s m args below meth c H locs cells slots Q (F0 m pc ls (.int i :: .ref (G.2 7) :: rest)) :=
  va_tb hx hb B.2.2.2.2.2.tens.2 B.2.2.2.2.1 hin rfl hdg kk
theorem z_onesb (hx : p.tables.exec = Jvm.exec) (hb : c.code = cc) (B : zB A s G S ad σ H locs) {i : Int32} (hin : vp_in i 100) (hdg : decode cc pc = .ok (.baload, 1))
    (kk : W p l e R s m args below meth c H locs cells slots Q (F0 m (pc + 1) ls (.int (nI (48 + i.toNatClampNeg % 10)) :: rest))) : W p l e R s m args below meth c H locs cells slots Q (F0 m pc ls (.int i :: .ref (G.2 8) :: rest)) :=
  va_tb hx hb B.2.2.2.2.2.ones.2 B.2.2.2.2.1 hin rfl hdg kk
/-- the text of the letters as a receiver -/
theorem z_letr (B : zB A s G S ad σ H locs) : ∃ cell : Cell, H[G.2 4]? = some cell ∧ cell.vm.isStatics = false ∧ s.vm.findClass "java/lang/String" = some cell.cls := by
  obtain ⟨cell, h⟩ := vk_recv B.2.2.2.2.2.lets (i := 0) (by decide) B.2.2.2.2.1
  exact ⟨cell, h⟩
theorem z_preL (B : zB A s G S ad σ H locs) {As : List Value} : PreV s H "java/lang/String" (G.2 4) (zPc G S ad σ H.size (.ref (G.2 4) :: As)) As :=
  ⟨zPc_blind, z_letr B, zB_call B⟩
theorem z_ldc8 (hx : p.tables.exec = Jvm.exec) (hb : c.code = cc) (hown : s.vm.findClass RX8 = some m.cls) (B : zB A s G S ad σ H locs) (hdg : decode cc pc = .ok (.ldc_w 407, 3))
    (kk : W p l e R s m args below meth c H locs cells slots Q (F0 m (pc + 3) ls (.ref (G.2 4) :: rest))) : W p l e R s m args below meth c H locs cells slots Q (F0 m pc ls rest) := by
  intro T hT X
  obtain ⟨t, a1, b1⟩ := kk T hT X
  exact ⟨t, X.ldcStringW hx hown (text := "rtsna") (a := G.2 4) B.2.2.2.2.2.let8.1 B.2.2.2.2.2.let8.2 (g := F0 m pc ls rest) rfl (by rw [hb]; exact hdg) t a1, b1⟩
theorem z_ldc1 (hx : p.tables.exec = Jvm.exec) (hb : c.code = cc) (hown : s.vm.findClass RX1 = some m.cls) (B : zB A s G S ad σ H locs) (hdg : decode cc pc = .ok (.ldc 46, 2))
    (kk : W p l e R s m args below meth c H locs cells slots Q (F0 m (pc + 2) ls (.ref (G.2 4) :: rest))) : W p l e R s m args below meth c H locs cells slots Q (F0 m pc ls rest) := by
  intro T hT X
  obtain ⟨t, a1, b1⟩ := kk T hT X
  exact ⟨t, X.ldcString hx hown (text := "rtsna") (a := G.2 4) B.2.2.2.2.2.let1.1 B.2.2.2.2.2.let1.2 (g := F0 m pc ls rest) rfl (by rw [hb]; exact hdg) t a1, b1⟩
end ZX
/-- a switch of two keys: neither -/
theorem zlk2 {x : Int32} {o0 o1 d : Int} (h0 : ¬ x = 0) (h1 : ¬ x = 1) : Op.lookupswitch.offset (#[((0 : Int), o0), ((1 : Int), o1)].toList) d x.toInt = d := by
  have a0 : ¬ (0 : Int) = x.toInt := fun h => h0 (Int32.toInt_inj.mp (h.symm.trans (by decide)))
  have a1 : ¬ (1 : Int) = x.toInt := fun h => h1 (Int32.toInt_inj.mp (h.symm.trans (by decide)))
  simp [Op.lookupswitch.offset, a0, a1]
