/-! loops by an invariant -/
theorem zli0 {o : Type} {f : (zs → Option o) → zs → Option o} (N : Nat) (I : Nat → zs → Prop) {Q : Option o → Prop}
    (hs : ∀ j, j < N → ∀ (s : zs), I j s → ∀ rec, (∀ (s1 : zs), I (j + 1) s1 → Q (rec s1)) → Q (f rec s))
    (he : ∀ (s : zs), I N s → ∀ rec, Q (f rec s)) (fuel : Nat) (hf : N < fuel) {s : zs} (h0 : I 0 s) : Q (zlp0 f fuel s) := by
  have key : ∀ (dd j fuel : Nat), j + dd = N → dd < fuel → ∀ (s : zs), I j s → Q (zlp0 f fuel s) := by
    intro dd
    induction dd with
    | zero =>
      intro j fuel hj hl s hI
      cases fuel with
      | zero => omega
      | succ fuel =>
        have e : j = N := by omega
        subst e
        exact he s hI _
    | succ dd ih =>
      intro j fuel hj hl s hI
      cases fuel with
      | zero => omega
      | succ fuel => exact hs j (by omega) s hI _ (fun s1 hh1 => ih (j + 1) fuel (by omega) (by omega) s1 hh1)
  exact key N 0 fuel (by omega) hf s h0
theorem zli1 {o : Type} {f : (zs → Int32 → Option o) → zs → Int32 → Option o} (N : Nat) (I : Nat → zs → Int32 → Prop) {Q : Option o → Prop}
    (hs : ∀ j, j < N → ∀ (s : zs) (a : Int32), I j s a → ∀ rec, (∀ (s1 : zs) (a1 : Int32), I (j + 1) s1 a1 → Q (rec s1 a1)) → Q (f rec s a))
    (he : ∀ (s : zs) (a : Int32), I N s a → ∀ rec, Q (f rec s a)) (fuel : Nat) (hf : N < fuel) {s : zs} {a : Int32} (h0 : I 0 s a) : Q (zlp1 f fuel s a) := by
  have key : ∀ (dd j fuel : Nat), j + dd = N → dd < fuel → ∀ (s : zs) (a : Int32), I j s a → Q (zlp1 f fuel s a) := by
    intro dd
    induction dd with
    | zero =>
      intro j fuel hj hl s a hI
      cases fuel with
      | zero => omega
      | succ fuel =>
        have e : j = N := by omega
        subst e
        exact he s a hI _
    | succ dd ih =>
      intro j fuel hj hl s a hI
      cases fuel with
      | zero => omega
      | succ fuel => exact hs j (by omega) s a hI _ (fun s1 a1 hh1 => ih (j + 1) fuel (by omega) (by omega) s1 a1 hh1)
  exact key N 0 fuel (by omega) hf s a h0
theorem zli2 {o : Type} {f : (zs → Int32 → Int32 → Option o) → zs → Int32 → Int32 → Option o} (N : Nat) (I : Nat → zs → Int32 → Int32 → Prop) {Q : Option o → Prop}
    (hs : ∀ j, j < N → ∀ (s : zs) (a b : Int32), I j s a b → ∀ rec, (∀ (s1 : zs) (a1 b1 : Int32), I (j + 1) s1 a1 b1 → Q (rec s1 a1 b1)) → Q (f rec s a b))
    (he : ∀ (s : zs) (a b : Int32), I N s a b → ∀ rec, Q (f rec s a b)) (fuel : Nat) (hf : N < fuel) {s : zs} {a b : Int32} (h0 : I 0 s a b) : Q (zlp2 f fuel s a b) := by
  have key : ∀ (dd j fuel : Nat), j + dd = N → dd < fuel → ∀ (s : zs) (a b : Int32), I j s a b → Q (zlp2 f fuel s a b) := by
    intro dd
    induction dd with
    | zero =>
      intro j fuel hj hl s a b hI
      cases fuel with
      | zero => omega
      | succ fuel =>
        have e : j = N := by omega
        subst e
        exact he s a b hI _
    | succ dd ih =>
      intro j fuel hj hl s a b hI
      cases fuel with
      | zero => omega
      | succ fuel => exact hs j (by omega) s a b hI _ (fun s1 a1 b1 hh1 => ih (j + 1) fuel (by omega) (by omega) s1 a1 b1 hh1)
  exact key N 0 fuel (by omega) hf s a b h0
theorem zli3 {o : Type} {f : (zs → Int32 → Int32 → Int32 → Option o) → zs → Int32 → Int32 → Int32 → Option o} (N : Nat) (I : Nat → zs → Int32 → Int32 → Int32 → Prop) {Q : Option o → Prop}
    (hs : ∀ j, j < N → ∀ (s : zs) (a b c : Int32), I j s a b c → ∀ rec, (∀ (s1 : zs) (a1 b1 c1 : Int32), I (j + 1) s1 a1 b1 c1 → Q (rec s1 a1 b1 c1)) → Q (f rec s a b c))
    (he : ∀ (s : zs) (a b c : Int32), I N s a b c → ∀ rec, Q (f rec s a b c)) (fuel : Nat) (hf : N < fuel) {s : zs} {a b c : Int32} (h0 : I 0 s a b c) : Q (zlp3 f fuel s a b c) := by
  have key : ∀ (dd j fuel : Nat), j + dd = N → dd < fuel → ∀ (s : zs) (a b c : Int32), I j s a b c → Q (zlp3 f fuel s a b c) := by
    intro dd
    induction dd with
    | zero =>
      intro j fuel hj hl s a b c hI
      cases fuel with
      | zero => omega
      | succ fuel =>
        have e : j = N := by omega
        subst e
        exact he s a b c hI _
    | succ dd ih =>
      intro j fuel hj hl s a b c hI
      cases fuel with
      | zero => omega
      | succ fuel => exact hs j (by omega) s a b c hI _ (fun s1 a1 b1 c1 hh1 => ih (j + 1) fuel (by omega) (by omega) s1 a1 b1 c1 hh1)
  exact key N 0 fuel (by omega) hf s a b c h0
theorem zli4 {o : Type} {f : (zs → Int32 → Int32 → Int32 → Int32 → Option o) → zs → Int32 → Int32 → Int32 → Int32 → Option o} (N : Nat) (I : Nat → zs → Int32 → Int32 → Int32 → Int32 → Prop) {Q : Option o → Prop}
    (hs : ∀ j, j < N → ∀ (s : zs) (a b c d : Int32), I j s a b c d → ∀ rec, (∀ (s1 : zs) (a1 b1 c1 d1 : Int32), I (j + 1) s1 a1 b1 c1 d1 → Q (rec s1 a1 b1 c1 d1)) → Q (f rec s a b c d))
    (he : ∀ (s : zs) (a b c d : Int32), I N s a b c d → ∀ rec, Q (f rec s a b c d)) (fuel : Nat) (hf : N < fuel) {s : zs} {a b c d : Int32} (h0 : I 0 s a b c d) : Q (zlp4 f fuel s a b c d) := by
  have key : ∀ (dd j fuel : Nat), j + dd = N → dd < fuel → ∀ (s : zs) (a b c d : Int32), I j s a b c d → Q (zlp4 f fuel s a b c d) := by
    intro dd
    induction dd with
    | zero =>
      intro j fuel hj hl s a b c d hI
      cases fuel with
      | zero => omega
      | succ fuel =>
        have e : j = N := by omega
        subst e
        exact he s a b c d hI _
    | succ dd ih =>
      intro j fuel hj hl s a b c d hI
      cases fuel with
      | zero => omega
      | succ fuel => exact hs j (by omega) s a b c d hI _ (fun s1 a1 b1 c1 d1 hh1 => ih (j + 1) fuel (by omega) (by omega) s1 a1 b1 c1 d1 hh1)
  exact key N 0 fuel (by omega) hf s a b c d h0
theorem zli5 {o : Type} {f : (zs → Int32 → Int32 → Int32 → Int32 → Int32 → Option o) → zs → Int32 → Int32 → Int32 → Int32 → Int32 → Option o} (N : Nat) (I : Nat → zs → Int32 → Int32 → Int32 → Int32 → Int32 → Prop) {Q : Option o → Prop}
    (hs : ∀ j, j < N → ∀ (s : zs) (a b c d e : Int32), I j s a b c d e → ∀ rec, (∀ (s1 : zs) (a1 b1 c1 d1 e1 : Int32), I (j + 1) s1 a1 b1 c1 d1 e1 → Q (rec s1 a1 b1 c1 d1 e1)) → Q (f rec s a b c d e))
    (he : ∀ (s : zs) (a b c d e : Int32), I N s a b c d e → ∀ rec, Q (f rec s a b c d e)) (fuel : Nat) (hf : N < fuel) {s : zs} {a b c d e : Int32} (h0 : I 0 s a b c d e) : Q (zlp5 f fuel s a b c d e) := by
  have key : ∀ (dd j fuel : Nat), j + dd = N → dd < fuel → ∀ (s : zs) (a b c d e : Int32), I j s a b c d e → Q (zlp5 f fuel s a b c d e) := by
    intro dd
    induction dd with
    | zero =>
      intro j fuel hj hl s a b c d e hI
      cases fuel with
      | zero => omega
      | succ fuel =>
        have e : j = N := by omega
        subst e
        exact he s a b c d e hI _
    | succ dd ih =>
      intro j fuel hj hl s a b c d e hI
      cases fuel with
      | zero => omega
      | succ fuel => exact hs j (by omega) s a b c d e hI _ (fun s1 a1 b1 c1 d1 e1 hh1 => ih (j + 1) fuel (by omega) (by omega) s1 a1 b1 c1 d1 e1 hh1)
  exact key N 0 fuel (by omega) hf s a b c d e h0
theorem zli6 {o : Type} {f : (zs → Int32 → Int32 → Int32 → Int32 → Int32 → Int32 → Option o) → zs → Int32 → Int32 → Int32 → Int32 → Int32 → Int32 → Option o} (N : Nat) (I : Nat → zs → Int32 → Int32 → Int32 → Int32 → Int32 → Int32 → Prop) {Q : Option o → Prop}
    (hs : ∀ j, j < N → ∀ (s : zs) (a b c d e g : Int32), I j s a b c d e g → ∀ rec, (∀ (s1 : zs) (a1 b1 c1 d1 e1 g1 : Int32), I (j + 1) s1 a1 b1 c1 d1 e1 g1 → Q (rec s1 a1 b1 c1 d1 e1 g1)) → Q (f rec s a b c d e g))
    (he : ∀ (s : zs) (a b c d e g : Int32), I N s a b c d e g → ∀ rec, Q (f rec s a b c d e g)) (fuel : Nat) (hf : N < fuel) {s : zs} {a b c d e g : Int32} (h0 : I 0 s a b c d e g) : Q (zlp6 f fuel s a b c d e g) := by
  have key : ∀ (dd j fuel : Nat), j + dd = N → dd < fuel → ∀ (s : zs) (a b c d e g : Int32), I j s a b c d e g → Q (zlp6 f fuel s a b c d e g) := by
    intro dd
    induction dd with
    | zero =>
      intro j fuel hj hl s a b c d e g hI
      cases fuel with
      | zero => omega
      | succ fuel =>
        have e : j = N := by omega
        subst e
        exact he s a b c d e g hI _
    | succ dd ih =>
      intro j fuel hj hl s a b c d e g hI
      cases fuel with
      | zero => omega
      | succ fuel => exact hs j (by omega) s a b c d e g hI _ (fun s1 a1 b1 c1 d1 e1 g1 hh1 => ih (j + 1) fuel (by omega) (by omega) s1 a1 b1 c1 d1 e1 g1 hh1)
  exact key N 0 fuel (by omega) hf s a b c d e g h0
theorem zli7 {o : Type} {f : (zs → Int32 → Int32 → Int32 → Int32 → Int32 → Int32 → Int32 → Option o) → zs → Int32 → Int32 → Int32 → Int32 → Int32 → Int32 → Int32 → Option o} (N : Nat) (I : Nat → zs → Int32 → Int32 → Int32 → Int32 → Int32 → Int32 → Int32 → Prop) {Q : Option o → Prop}
    (hs : ∀ j, j < N → ∀ (s : zs) (a b c d e g h : Int32), I j s a b c d e g h → ∀ rec, (∀ (s1 : zs) (a1 b1 c1 d1 e1 g1 h1 : Int32), I (j + 1) s1 a1 b1 c1 d1 e1 g1 h1 → Q (rec s1 a1 b1 c1 d1 e1 g1 h1)) → Q (f rec s a b c d e g h))
    (he : ∀ (s : zs) (a b c d e g h : Int32), I N s a b c d e g h → ∀ rec, Q (f rec s a b c d e g h)) (fuel : Nat) (hf : N < fuel) {s : zs} {a b c d e g h : Int32} (h0 : I 0 s a b c d e g h) : Q (zlp7 f fuel s a b c d e g h) := by
  have key : ∀ (dd j fuel : Nat), j + dd = N → dd < fuel → ∀ (s : zs) (a b c d e g h : Int32), I j s a b c d e g h → Q (zlp7 f fuel s a b c d e g h) := by
    intro dd
    induction dd with
    | zero =>
      intro j fuel hj hl s a b c d e g h hI
      cases fuel with
      | zero => omega
      | succ fuel =>
        have e : j = N := by omega
        subst e
        exact he s a b c d e g h hI _
    | succ dd ih =>
      intro j fuel hj hl s a b c d e g h hI
      cases fuel with
      | zero => omega
      | succ fuel => exact hs j (by omega) s a b c d e g h hI _ (fun s1 a1 b1 c1 d1 e1 g1 h1 hh1 => ih (j + 1) fuel (by omega) (by omega) s1 a1 b1 c1 d1 e1 g1 h1 hh1)
  exact key N 0 fuel (by omega) hf s a b c d e g h h0
