/-! THE PURE SIDE: how the functions of the bytecode run -/
theorem zg_t {α : Type} (t : Option α) : zg true t = t := rfl
theorem zb_s {α : Type} (r : Int32) (σ : zs) (f : Int32 → zs → Option α) : zb (some (r, σ)) f = f r σ := rfl
theorem zx_0 (r : Int32) (σ : zs) (f : Int32 → zs → Option zO) : zx (some (0, r, σ)) f = f r σ := rfl
theorem zx_s (e : Nat) (r : Int32) (σ : zs) (f : Int32 → zs → Option zO) : zx (some (e + 1, r, σ)) f = some (e + 1, 0, σ) := rfl
theorem zx_1 (r : Int32) (σ : zs) (f : Int32 → zs → Option zO) : zx (some (1, r, σ)) f = some (1, 0, σ) := rfl
theorem zx_2 (r : Int32) (σ : zs) (f : Int32 → zs → Option zO) : zx (some (2, r, σ)) f = some (2, 0, σ) := rfl
theorem zx_3 (r : Int32) (σ : zs) (f : Int32 → zs → Option zO) : zx (some (3, r, σ)) f = some (3, 0, σ) := rfl
theorem zx_4 (r : Int32) (σ : zs) (f : Int32 → zs → Option zO) : zx (some (4, r, σ)) f = some (4, 0, σ) := rfl
theorem zx_5 (r : Int32) (σ : zs) (f : Int32 → zs → Option zO) : zx (some (5, r, σ)) f = some (5, 0, σ) := rfl
theorem zc_0 {α : Type} (r : Int32) (σ : zs) (f : Int32 → zs → Option α) (g : Nat → zs → Option α) : zc (some (0, r, σ)) f g = f r σ := rfl
theorem zc_s {α : Type} (e : Nat) (r : Int32) (σ : zs) (f : Int32 → zs → Option α) (g : Nat → zs → Option α) : zc (some (e + 1, r, σ)) f g = g (e + 1) σ := rfl
theorem zlit (n : Nat) : (OfNat.ofNat n : Int32) = nI n := rfl
theorem zi0 : (0 : Int32) = nI 0 := rfl
theorem zin_n {i N : Nat} (h : i < N) (hN : N < 2 ^ 31) : zin (nI i) N = true := by
  have h1 : (nI i).toNatClampNeg = i := nI_clamp (by omega)
  have h2 : (0 : Int32) ≤ nI i := nI_pos' (by omega)
  simp [zin, h1, h2, h]
theorem zp_k (σ : zs) (k j : Nat) (v : Int32) : zp σ k j v k = upd (σ k) j v := zR_self σ k _
theorem zp_n (σ : zs) {k a : Nat} (j : Nat) (v : Int32) (h : a ≠ k) : zp σ k j v a = σ a := zR_ne σ _ h
theorem upd_s (f : Nat → Int32) (k : Nat) (v : Int32) : upd f k v k = v := by simp [upd]
theorem upd_n (f : Nat → Int32) {k j : Nat} (v : Int32) (h : j ≠ k) : upd f k v j = f j := by simp [upd, h]
theorem zp_e (σ : zs) (k j : Nat) (v : Int32) : zp σ k j v k j = v := by rw [zp_k, upd_s]
theorem zp_o (σ : zs) {k j i : Nat} (v : Int32) (h : i ≠ j) : zp σ k j v k i = σ k i := by rw [zp_k, upd_n _ _ h]
def bI (b : Bool) : Int32 := if b then 1 else 0
theorem bI_t : bI true = 1 := rfl
theorem bI_f : bI false = 0 := rfl
theorem bI_g (b : Bool) : (bI b &&& 1 == bI b) = true := by cases b <;> decide
theorem bI_0 {α : Sort _} (b : Bool) (x y : α) : (if bI b = 0 then x else y) = if b then y else x := by cases b <;> simp [bI]
theorem bI_ne {α : Sort _} (b : Bool) (x y : α) : (if bI b = 1 then x else y) = if b then x else y := by cases b <;> simp [bI]

theorem zlr0 {o : Type} {f : (zs → Option o) → zs → Option o} (N : Nat) (s : Nat → zs) {out : Option o}
    (hs : ∀ i, i < N → ∀ rec, f rec (s i) = rec (s (i + 1))) (he : ∀ rec, f rec (s N) = out) (fuel : Nat) (hf : N < fuel) : zlp0 f fuel (s 0) = out := by
  have key : ∀ (dd i fuel : Nat), i + dd = N → dd < fuel → zlp0 f fuel (s i) = out := by
    intro dd
    induction dd with
    | zero =>
      intro i fuel hi hl
      cases fuel with
      | zero => omega
      | succ fuel =>
        have e : i = N := by omega
        subst e
        exact he _
    | succ dd ih =>
      intro i fuel hi hl
      cases fuel with
      | zero => omega
      | succ fuel =>
        have hh := hs i (by omega) (zlp0 f fuel)
        show f (zlp0 f fuel) (s i) = out
        rw [hh]
        exact ih (i + 1) fuel (by omega) (by omega)
  exact key N 0 fuel (by omega) hf

theorem zlr1 {o : Type} {f : (zs → Int32 → Option o) → zs → Int32 → Option o} (N : Nat) (s : Nat → zs) (a : Nat → Int32) {out : Option o}
    (hs : ∀ i, i < N → ∀ rec, f rec (s i) (a i) = rec (s (i + 1)) (a (i + 1))) (he : ∀ rec, f rec (s N) (a N) = out) (fuel : Nat) (hf : N < fuel) : zlp1 f fuel (s 0) (a 0) = out := by
  have key : ∀ (dd i fuel : Nat), i + dd = N → dd < fuel → zlp1 f fuel (s i) (a i) = out := by
    intro dd
    induction dd with
    | zero =>
      intro i fuel hi hl
      cases fuel with
      | zero => omega
      | succ fuel =>
        have e : i = N := by omega
        subst e
        exact he _
    | succ dd ih =>
      intro i fuel hi hl
      cases fuel with
      | zero => omega
      | succ fuel =>
        have hh := hs i (by omega) (zlp1 f fuel)
        show f (zlp1 f fuel) (s i) (a i) = out
        rw [hh]
        exact ih (i + 1) fuel (by omega) (by omega)
  exact key N 0 fuel (by omega) hf

theorem zlr2 {o : Type} {f : (zs → Int32 → Int32 → Option o) → zs → Int32 → Int32 → Option o} (N : Nat) (s : Nat → zs) (a b : Nat → Int32) {out : Option o}
    (hs : ∀ i, i < N → ∀ rec, f rec (s i) (a i) (b i) = rec (s (i + 1)) (a (i + 1)) (b (i + 1))) (he : ∀ rec, f rec (s N) (a N) (b N) = out) (fuel : Nat) (hf : N < fuel) : zlp2 f fuel (s 0) (a 0) (b 0) = out := by
  have key : ∀ (dd i fuel : Nat), i + dd = N → dd < fuel → zlp2 f fuel (s i) (a i) (b i) = out := by
    intro dd
    induction dd with
    | zero =>
      intro i fuel hi hl
      cases fuel with
      | zero => omega
      | succ fuel =>
        have e : i = N := by omega
        subst e
        exact he _
    | succ dd ih =>
      intro i fuel hi hl
      cases fuel with
      | zero => omega
      | succ fuel =>
        have hh := hs i (by omega) (zlp2 f fuel)
        show f (zlp2 f fuel) (s i) (a i) (b i) = out
        rw [hh]
        exact ih (i + 1) fuel (by omega) (by omega)
  exact key N 0 fuel (by omega) hf

theorem zlr3 {o : Type} {f : (zs → Int32 → Int32 → Int32 → Option o) → zs → Int32 → Int32 → Int32 → Option o} (N : Nat) (s : Nat → zs) (a b c : Nat → Int32) {out : Option o}
    (hs : ∀ i, i < N → ∀ rec, f rec (s i) (a i) (b i) (c i) = rec (s (i + 1)) (a (i + 1)) (b (i + 1)) (c (i + 1))) (he : ∀ rec, f rec (s N) (a N) (b N) (c N) = out) (fuel : Nat) (hf : N < fuel) : zlp3 f fuel (s 0) (a 0) (b 0) (c 0) = out := by
  have key : ∀ (dd i fuel : Nat), i + dd = N → dd < fuel → zlp3 f fuel (s i) (a i) (b i) (c i) = out := by
    intro dd
    induction dd with
    | zero =>
      intro i fuel hi hl
      cases fuel with
      | zero => omega
      | succ fuel =>
        have e : i = N := by omega
        subst e
        exact he _
    | succ dd ih =>
      intro i fuel hi hl
      cases fuel with
      | zero => omega
      | succ fuel =>
        have hh := hs i (by omega) (zlp3 f fuel)
        show f (zlp3 f fuel) (s i) (a i) (b i) (c i) = out
        rw [hh]
        exact ih (i + 1) fuel (by omega) (by omega)
  exact key N 0 fuel (by omega) hf

theorem zlr4 {o : Type} {f : (zs → Int32 → Int32 → Int32 → Int32 → Option o) → zs → Int32 → Int32 → Int32 → Int32 → Option o} (N : Nat) (s : Nat → zs) (a b c d : Nat → Int32) {out : Option o}
    (hs : ∀ i, i < N → ∀ rec, f rec (s i) (a i) (b i) (c i) (d i) = rec (s (i + 1)) (a (i + 1)) (b (i + 1)) (c (i + 1)) (d (i + 1))) (he : ∀ rec, f rec (s N) (a N) (b N) (c N) (d N) = out) (fuel : Nat) (hf : N < fuel) : zlp4 f fuel (s 0) (a 0) (b 0) (c 0) (d 0) = out := by
  have key : ∀ (dd i fuel : Nat), i + dd = N → dd < fuel → zlp4 f fuel (s i) (a i) (b i) (c i) (d i) = out := by
    intro dd
    induction dd with
    | zero =>
      intro i fuel hi hl
      cases fuel with
      | zero => omega
      | succ fuel =>
        have e : i = N := by omega
        subst e
        exact he _
    | succ dd ih =>
      intro i fuel hi hl
      cases fuel with
      | zero => omega
      | succ fuel =>
        have hh := hs i (by omega) (zlp4 f fuel)
        show f (zlp4 f fuel) (s i) (a i) (b i) (c i) (d i) = out
        rw [hh]
        exact ih (i + 1) fuel (by omega) (by omega)
  exact key N 0 fuel (by omega) hf

theorem zlr5 {o : Type} {f : (zs → Int32 → Int32 → Int32 → Int32 → Int32 → Option o) → zs → Int32 → Int32 → Int32 → Int32 → Int32 → Option o} (N : Nat) (s : Nat → zs) (a b c d e : Nat → Int32) {out : Option o}
    (hs : ∀ i, i < N → ∀ rec, f rec (s i) (a i) (b i) (c i) (d i) (e i) = rec (s (i + 1)) (a (i + 1)) (b (i + 1)) (c (i + 1)) (d (i + 1)) (e (i + 1))) (he : ∀ rec, f rec (s N) (a N) (b N) (c N) (d N) (e N) = out) (fuel : Nat) (hf : N < fuel) : zlp5 f fuel (s 0) (a 0) (b 0) (c 0) (d 0) (e 0) = out := by
  have key : ∀ (dd i fuel : Nat), i + dd = N → dd < fuel → zlp5 f fuel (s i) (a i) (b i) (c i) (d i) (e i) = out := by
    intro dd
    induction dd with
    | zero =>
      intro i fuel hi hl
      cases fuel with
      | zero => omega
      | succ fuel =>
        have e : i = N := by omega
        subst e
        exact he _
    | succ dd ih =>
      intro i fuel hi hl
      cases fuel with
      | zero => omega
      | succ fuel =>
        have hh := hs i (by omega) (zlp5 f fuel)
        show f (zlp5 f fuel) (s i) (a i) (b i) (c i) (d i) (e i) = out
        rw [hh]
        exact ih (i + 1) fuel (by omega) (by omega)
  exact key N 0 fuel (by omega) hf

theorem zlr6 {o : Type} {f : (zs → Int32 → Int32 → Int32 → Int32 → Int32 → Int32 → Option o) → zs → Int32 → Int32 → Int32 → Int32 → Int32 → Int32 → Option o} (N : Nat) (s : Nat → zs) (a b c d e g : Nat → Int32) {out : Option o}
    (hs : ∀ i, i < N → ∀ rec, f rec (s i) (a i) (b i) (c i) (d i) (e i) (g i) = rec (s (i + 1)) (a (i + 1)) (b (i + 1)) (c (i + 1)) (d (i + 1)) (e (i + 1)) (g (i + 1))) (he : ∀ rec, f rec (s N) (a N) (b N) (c N) (d N) (e N) (g N) = out) (fuel : Nat) (hf : N < fuel) : zlp6 f fuel (s 0) (a 0) (b 0) (c 0) (d 0) (e 0) (g 0) = out := by
  have key : ∀ (dd i fuel : Nat), i + dd = N → dd < fuel → zlp6 f fuel (s i) (a i) (b i) (c i) (d i) (e i) (g i) = out := by
    intro dd
    induction dd with
    | zero =>
      intro i fuel hi hl
      cases fuel with
      | zero => omega
      | succ fuel =>
        have e : i = N := by omega
        subst e
        exact he _
    | succ dd ih =>
      intro i fuel hi hl
      cases fuel with
      | zero => omega
      | succ fuel =>
        have hh := hs i (by omega) (zlp6 f fuel)
        show f (zlp6 f fuel) (s i) (a i) (b i) (c i) (d i) (e i) (g i) = out
        rw [hh]
        exact ih (i + 1) fuel (by omega) (by omega)
  exact key N 0 fuel (by omega) hf

theorem zlr7 {o : Type} {f : (zs → Int32 → Int32 → Int32 → Int32 → Int32 → Int32 → Int32 → Option o) → zs → Int32 → Int32 → Int32 → Int32 → Int32 → Int32 → Int32 → Option o} (N : Nat) (s : Nat → zs) (a b c d e g h : Nat → Int32) {out : Option o}
    (hs : ∀ i, i < N → ∀ rec, f rec (s i) (a i) (b i) (c i) (d i) (e i) (g i) (h i) = rec (s (i + 1)) (a (i + 1)) (b (i + 1)) (c (i + 1)) (d (i + 1)) (e (i + 1)) (g (i + 1)) (h (i + 1))) (he : ∀ rec, f rec (s N) (a N) (b N) (c N) (d N) (e N) (g N) (h N) = out) (fuel : Nat) (hf : N < fuel) : zlp7 f fuel (s 0) (a 0) (b 0) (c 0) (d 0) (e 0) (g 0) (h 0) = out := by
  have key : ∀ (dd i fuel : Nat), i + dd = N → dd < fuel → zlp7 f fuel (s i) (a i) (b i) (c i) (d i) (e i) (g i) (h i) = out := by
    intro dd
    induction dd with
    | zero =>
      intro i fuel hi hl
      cases fuel with
      | zero => omega
      | succ fuel =>
        have e : i = N := by omega
        subst e
        exact he _
    | succ dd ih =>
      intro i fuel hi hl
      cases fuel with
      | zero => omega
      | succ fuel =>
        have hh := hs i (by omega) (zlp7 f fuel)
        show f (zlp7 f fuel) (s i) (a i) (b i) (c i) (d i) (e i) (g i) (h i) = out
        rw [hh]
        exact ih (i + 1) fuel (by omega) (by omega)
  exact key N 0 fuel (by omega) hf

/-! counts, sets and tests over the first n numbers -/
def zset (p : Nat → Bool) : Nat → Int32
  | 0 => 0
  | i + 1 => if p i then zset p i ||| (1 <<< (nI i &&& 31)) else zset p i
def zcnt (p : Nat → Bool) : Nat → Nat
  | 0 => 0
  | i + 1 => if p i then zcnt p i + 1 else zcnt p i
def zany (p : Nat → Bool) : Nat → Bool
  | 0 => false
  | i + 1 => zany p i || p i
theorem zany_iff (p : Nat → Bool) : ∀ n, zany p n = true ↔ ∃ i, i < n ∧ p i = true
  | 0 => by simp [zany]
  | n + 1 => by
    simp only [zany, Bool.or_eq_true, zany_iff p n]
    constructor
    · rintro (⟨i, h1, h2⟩ | h)
      · exact ⟨i, by omega, h2⟩
      · exact ⟨n, by omega, h⟩
    · rintro ⟨i, h1, h2⟩
      by_cases e : i = n
      · subst e; exact Or.inr h2
      · exact Or.inl ⟨i, by omega, h2⟩
theorem zany_no {p : Nat → Bool} {n : Nat} : zany p n = false ↔ ∀ i, i < n → p i = false := by
  constructor
  · intro h i hi
    cases hp : p i with
    | false => rfl
    | true => rw [(zany_iff p n).mpr ⟨i, hi, hp⟩] at h; cases h
  · intro h
    cases ha : zany p n with
    | false => rfl
    | true =>
      obtain ⟨i, h1, h2⟩ := (zany_iff p n).mp ha
      rw [h i h1] at h2; cases h2
theorem zcnt_le (p : Nat → Bool) : ∀ n, zcnt p n ≤ n
  | 0 => Nat.le_refl 0
  | n + 1 => by
    have h := zcnt_le p n
    simp only [zcnt]; split <;> omega
theorem zcnt_pos (p : Nat → Bool) : ∀ n, 0 < zcnt p n ↔ zany p n = true
  | 0 => by simp [zcnt, zany]
  | n + 1 => by
    have h := zcnt_pos p n
    simp only [zcnt, zany]
    cases hp : p n with
    | false => simp [h]
    | true => simp
theorem zset_cong {p q : Nat → Bool} : ∀ {n : Nat}, (∀ i, i < n → p i = q i) → zset p n = zset q n
  | 0, _ => rfl
  | n + 1, h => by
    have e := zset_cong (p := p) (q := q) (n := n) (fun i hi => h i (Nat.lt_succ_of_lt hi))
    rw [zset, zset, h n (Nat.lt_succ_self n), e]
theorem zcnt_cong {p q : Nat → Bool} : ∀ {n : Nat}, (∀ i, i < n → p i = q i) → zcnt p n = zcnt q n
  | 0, _ => rfl
  | n + 1, h => by
    have e := zcnt_cong (p := p) (q := q) (n := n) (fun i hi => h i (Nat.lt_succ_of_lt hi))
    rw [zcnt, zcnt, h n (Nat.lt_succ_self n), e]
theorem zany_cong {p q : Nat → Bool} : ∀ {n : Nat}, (∀ i, i < n → p i = q i) → zany p n = zany q n
  | 0, _ => rfl
  | n + 1, h => by
    have e := zany_cong (p := p) (q := q) (n := n) (fun i hi => h i (Nat.lt_succ_of_lt hi))
    rw [zany, zany, h n (Nat.lt_succ_self n), e]
/-- the first place that passes, or n -/
theorem zfirst (p : Nat → Bool) (n : Nat) : (∃ k, k < n ∧ p k = true ∧ ∀ j, j < k → p j = false) ∨ ∀ j, j < n → p j = false := by
  by_cases h : ∃ k, k < n ∧ p k = true
  · obtain ⟨k, hk, hj⟩ := pk_least (fun k => k < n ∧ p k = true) h
    refine Or.inl ⟨k, hk.1, hk.2, fun j hjk => ?_⟩
    cases hp : p j with
    | false => rfl
    | true => exact absurd ⟨by omega, hp⟩ (hj j hjk)
  · refine Or.inr (fun j hj => ?_)
    cases hp : p j with
    | false => rfl
    | true => exact absurd ⟨j, hj, hp⟩ h
