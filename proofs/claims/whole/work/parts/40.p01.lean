/-! THE PURE SIDE: what holds between the class's cells and the reference's -/
def zN (x : Int32) : Nat := x.toNatClampNeg
def zr (x : Int32) (B : Nat) : Prop := ∃ v, v < B ∧ v < 2147483648 ∧ x = nI v
theorem zN_nI {v : Nat} (h : v < 2147483648) : zN (nI v) = v := nI_clamp h
theorem zr_N {x : Int32} {B : Nat} (h : zr x B) : x = nI (zN x) ∧ zN x < B ∧ zN x < 2147483648 := by
  obtain ⟨v, h1, h2, rfl⟩ := h
  rw [zN_nI h2]
  exact ⟨rfl, h1, h2⟩
theorem zr_i {v B : Nat} (h : v < B) (h2 : v < 2147483648) : zr (nI v) B := ⟨v, h, h2, rfl⟩
theorem zr_le {x : Int32} {A B : Nat} (h : zr x A) (hab : A ≤ B) : zr x B := by
  obtain ⟨v, h1, h2, h3⟩ := h
  exact ⟨v, Nat.lt_of_lt_of_le h1 hab, h2, h3⟩
/-- a number is one of the first n, or not -/
theorem zcase (a : Int32) {n : Nat} (hn : n < 2147483648) : (∃ t, t < n ∧ a = nI t) ∨ (a < 0 ∨ nI n ≤ a) := by
  by_cases h : a < 0
  · exact Or.inr (Or.inl h)
  · obtain ⟨j, hj, rfl⟩ := nI_of h
    by_cases h2 : j < n
    · exact Or.inl ⟨j, h2, rfl⟩
    · exact Or.inr (Or.inr (nI_le (by omega) hj))
theorem zlt0 {t : Nat} (h : t < 2147483648) : ¬ nI t < 0 := nI_pos h
theorem znle {t n : Nat} (h : t < n) (hn : n < 2147483648) : ¬ nI n ≤ nI t := nI_ge h hn
theorem znI_inj {a b : Nat} (ha : a < 2147483648) (hb : b < 2147483648) : (nI a = nI b) = (a = b) := propext (nI_eq ha hb)
theorem nI_sub {a b : Nat} (h : b ≤ a) : nI a - nI b = nI (a - b) := by
  have e : nI a = nI (a - b) + nI b := by rw [nI_add]; congr 1; omega
  rw [e]
  simp
theorem nI_mul (a b : Nat) : nI a * nI b = nI (a * b) := (Int32.ofNat_mul a b).symm
/-- the chain of a token, by places -/
def zch (c : zs) (t k : Nat) : Nat := zN (c 5 (t * 7 + k))
def zln (c : zs) (t : Nat) : Nat := zN (c 4 t)
def RTk (c : zs) (m : Nat → Int32) (K t : Nat) : Prop :=
  (m (51 + t) = c 3 t ∧ zr (c 3 t) 12) ∧
  (zr (c 4 t) 8 ∧ 1 ≤ zln c t) ∧
  ((∀ k, k < zln c t → zr (c 5 (t * 7 + k)) (t + 1)) ∧ zch c t (zln c t - 1) = t) ∧
  ((zln c t = 1 → m (79 + t) = -1) ∧ (1 < zln c t → m (79 + t) = nI (zch c t (zln c t - 2)) ∧ zch c t (zln c t - 2) < t ∧ zln c (zch c t (zln c t - 2)) + 1 = zln c t ∧ ∀ k, k + 1 < zln c t → zch c (zch c t (zln c t - 2)) k = zch c t k)) ∧
  (m (107 + t) = c 6 t ∧ zr (c 6 t) 64) ∧
  (m (163 + t) = c 7 t ∧ zr (c 7 t) (K + 1)) ∧
  (m (135 + t) = c 8 t ∧ (c 8 t = -1 ∨ zr (c 8 t) 6)) ∧
  (m (191 + t) = c 9 t ∧ zr (c 9 t) 5) ∧
  ∀ q, q < zN (c 9 t) → (m (219 + 3 * (4 * t + q) + 0) = c 10 (t * 4 + q) ∧ m (219 + 3 * (4 * t + q) + 1) = c 11 (t * 4 + q) ∧ m (219 + 3 * (4 * t + q) + 2) = c 12 (t * 4 + q)) ∧ zr (c 10 (t * 4 + q)) 5 ∧ zr (c 11 (t * 4 + q)) 1000 ∧ (c 10 (t * 4 + q) = 0 → zr (c 11 (t * 4 + q)) 16) ∧ (c 10 (t * 4 + q) = 2 → zr (c 11 (t * 4 + q)) 6) ∧ (c 10 (t * 4 + q) = 4 → zr (c 12 (t * 4 + q)) 1000)
def RBx (c : zs) (m : Nat → Int32) (n : Nat) : Prop := ∃ np nx, np ≤ 4 ∧ nx ≤ 12 ∧ (c 14 0 = nI np ∧ m 2 = nI np) ∧ (c 14 3 = nI nx ∧ m 3 = nI nx) ∧
  (∀ i, i < np → (m (555 + i) = c 15 i ∧ zr (c 15 i) 64) ∧ m (559 + i) = c 16 i ∧ zr (c 16 i) 64) ∧
  ∀ i, i < nx → (m (563 + i) = c 17 i ∧ zr (c 17 i) np) ∧ (m (575 + i) = c 18 i ∧ zr (c 18 i) n) ∧ m (587 + i) = c 19 i ∧ zr (c 19 i) 64
def RJn (c : zs) (m : Nat → Int32) : Prop := ∃ ne, ne ≤ 20 ∧ (c 20 1 = nI ne ∧ m 6 = nI ne) ∧ (m 4 = c 20 2 ∧ m 5 = c 20 3) ∧ (∀ i, i < 20 → m (7 + i) = c 21 i) ∧ ∀ i, i < ne → ∃ v, v < 10000 ∧ v % 10 < 2 ∧ c 21 i = nI v
def ROb (c : zs) (m : Nat → Int32) : Prop := ∀ i, i < 12 → m (27 + i) = c 22 i ∧ m (39 + i) = c 23 i
def RTm (c : zs) (m : Nat → Int32) (K : Nat) : Prop := m 0 = c 1 5 ∧ zr (c 1 5) (100 * K + 1)
def REx (c : zs) (m : Nat → Int32) : Prop := ∃ ne, ne ≤ 28 ∧ (c 1 7 = nI ne ∧ m 599 = nI ne) ∧ ∀ i, i < ne → m (600 + i) = c 24 i
def RS (c : zs) (m : Nat → Int32) (K n : Nat) : Prop := n ≤ 28 ∧ (c 2 0 = nI n ∧ m 1 = nI n) ∧ (∀ t, t < n → RTk c m K t) ∧ RBx c m n ∧ RJn c m ∧ ROb c m ∧ RTm c m K ∧ REx c m
/-- the part of the row and of the cells that counts -/
def zdom (p : Nat) : Nat := if p = 1 then 8 else if p = 2 then 1 else if p = 5 then 196 else if p = 10 then 112 else if p = 11 then 112 else if p = 12 then 112 else if p = 14 then 4 else if p = 20 then 4 else if p = 21 then 20 else if 3 ≤ p ∧ p ≤ 9 then 28 else if p = 15 ∨ p = 16 then 4 else if p = 24 then 28 else if 17 ≤ p ∧ p ≤ 23 then 12 else 0
def zrow : Nat := 628
def zkp (σ : zs) : zs := fun p => σ (p + 24)
def RRp (σ : zs) : Prop := ∃ d, d ≤ 3 ∧ (σ 49 2 = nI d ∧ σ 65 10 = nI d) ∧ ∀ i, i < d → σ 70 i = σ 50 i ∧ σ 71 i = σ 51 i
def RTx (σ : zs) : Prop := (∃ w, w ≤ 40 ∧ (σ 52 1 = nI w ∧ σ 65 5 = nI w) ∧ ∀ i, i < w → σ 68 i = σ 53 i ∧ zr (σ 53 i) 127 ∧ 33 ≤ zN (σ 53 i)) ∧ σ 65 6 = σ 52 2
def RSB (σ : zs) : Prop := σ 63 1 = 0 ∧ zr (σ 63 3) 41
def RKp (σ : zs) (K : Nat) : Prop := (σ 0 2 = 0 ∧ σ 65 2 = 0) ∨ (σ 0 2 = 1 ∧ σ 65 2 = 1 ∧ ∃ n, RS (zkp σ) (σ 67) K n)
def RA (σ : zs) (K : Nat) : Prop := (∃ n, RS σ (σ 66) K n) ∧ RKp σ K ∧ RRp σ ∧ RTx σ ∧ RSB σ
theorem zch_lt {c : zs} {m : Nat → Int32} {K t : Nat} (h : RTk c m K t) {k : Nat} (hk : k < zln c t) : c 5 (t * 7 + k) = nI (zch c t k) ∧ zch c t k ≤ t := by
  obtain ⟨h1, h2, h3⟩ := zr_N (h.2.2.1.1 k hk)
  exact ⟨h1, Nat.le_of_lt_succ h2⟩
theorem zln_eq {c : zs} {m : Nat → Int32} {K t : Nat} (h : RTk c m K t) : c 4 t = nI (zln c t) ∧ 1 ≤ zln c t ∧ zln c t ≤ 7 := by
  obtain ⟨h1, h2, h3⟩ := zr_N h.2.1.1
  exact ⟨h1, h.2.1.2, Nat.le_of_lt_succ h2⟩
/-- a token of a chain has for its chain the part up to itself -/
theorem zpre {c : zs} {m : Nat → Int32} {K n : Nat} (h : ∀ t, t < n → RTk c m K t) : ∀ t, t < n → ∀ k, k < zln c t → zch c t k ≤ t ∧ zln c (zch c t k) = k + 1 ∧ ∀ j, j ≤ k → zch c (zch c t k) j = zch c t j := by
  intro t
  induction t using Nat.strongRecOn with
  | ind t ih =>
    intro ht k hk
    have R := h t ht
    by_cases e : k = zln c t - 1
    · have e1 : zch c t k = t := by rw [e]; exact R.2.2.1.2
      refine ⟨by omega, ?_, ?_⟩
      · rw [e1]; omega
      · intro j hj; rw [e1]
    · have hl : 1 < zln c t := by omega
      obtain ⟨-, hp, hlp, hpre⟩ := R.2.2.2.1.2 hl
      generalize hpe : zch c t (zln c t - 2) = p at hp hlp hpre
      obtain ⟨a1, a2, a3⟩ := ih p hp (by omega) k (by omega)
      have e1 : zch c p k = zch c t k := hpre k (by omega)
      rw [e1] at a1 a2 a3
      refine ⟨by omega, a2, fun j hj => ?_⟩
      rw [a3 j hj]
      exact hpre j (by omega)
/-- the reference's parent of a token of a chain -/
theorem zpar {c : zs} {m : Nat → Int32} {K n : Nat} (h : ∀ t, t < n → RTk c m K t) {t : Nat} (ht : t < n) : (m (79 + zch c t 0) = -1) ∧ ∀ k, k + 1 < zln c t → m (79 + zch c t (k + 1)) = nI (zch c t k) := by
  have hl := (zln_eq (h t ht)).2.1
  constructor
  · obtain ⟨a1, a2, a3⟩ := zpre h t ht 0 (by omega)
    exact (h _ (by omega)).2.2.2.1.1 a2
  · intro k hk
    obtain ⟨a1, a2, a3⟩ := zpre h t ht (k + 1) hk
    have R := h (zch c t (k + 1)) (by omega)
    have e := (R.2.2.2.1.2 (by omega)).1
    rw [a2] at e
    rw [e, show k + 1 + 1 - 2 = k by omega, a3 k (by omega)]
/-- the road from a token to its root -/
def zup (c : zs) (t i : Nat) : Int32 := if i < zln c t then nI (zch c t (zln c t - 1 - i)) else -1
theorem zup_0 {c : zs} {m : Nat → Int32} {K t : Nat} (h : RTk c m K t) : zup c t 0 = nI t := by
  have := (zln_eq h).2.1
  rw [zup, if_pos (by omega), Nat.sub_zero, h.2.2.1.2]
theorem zup_in {c : zs} {t i : Nat} (h : i < zln c t) : zup c t i = nI (zch c t (zln c t - 1 - i)) := if_pos h
theorem zup_end {c : zs} {t : Nat} : zup c t (zln c t) = -1 := if_neg (by omega)
theorem zup_s {c : zs} {m : Nat → Int32} {K n : Nat} (h : ∀ t, t < n → RTk c m K t) {t : Nat} (ht : t < n) {i : Nat} (hi : i < zln c t) : m (79 + zch c t (zln c t - 1 - i)) = zup c t (i + 1) := by
  obtain ⟨h0, h1⟩ := zpar h ht
  by_cases e : i + 1 < zln c t
  · rw [zup_in e, show zln c t - 1 - i = (zln c t - 1 - (i + 1)) + 1 by omega]
    exact h1 _ (by omega)
  · rw [show i + 1 = zln c t by omega, zup_end, show zln c t - 1 - i = 0 by omega]
    exact h0
theorem zch_b {c : zs} {m : Nat → Int32} {K n : Nat} (hn : n ≤ 28) (h : ∀ t, t < n → RTk c m K t) {t : Nat} (ht : t < n) {k : Nat} (hk : k < zln c t) : zch c t k < n ∧ zch c t k < 28 := by
  have := (zch_lt (h t ht) hk).2
  omega
/-- counts and tests do not care for the order -/
theorem zcnt_rev (p : Nat → Bool) : ∀ n, zcnt (fun k => p (n - 1 - k)) n = zcnt p n := by
  have key : ∀ n (p : Nat → Bool), zcnt p (n + 1) = (if p 0 then 1 else 0) + zcnt (fun k => p (k + 1)) n := by
    intro n
    induction n with
    | zero => intro p; simp only [zcnt]; split <;> rfl
    | succ n ih =>
      intro p
      have e : zcnt p (n + 1 + 1) = if p (n + 1) then zcnt p (n + 1) + 1 else zcnt p (n + 1) := rfl
      rw [e, ih p]
      simp only [zcnt]
      split <;> omega
  intro n
  induction n with
  | zero => rfl
  | succ n ih =>
    rw [key]
    have e : zcnt (fun k => p (n + 1 - 1 - (k + 1))) n = zcnt (fun k => p (n - 1 - k)) n := zcnt_cong (fun i hi => by rw [show n + 1 - 1 - (i + 1) = n - 1 - i by omega])
    rw [e, ih]
    simp only [zcnt, Nat.add_sub_cancel, Nat.sub_zero]
    split <;> omega
theorem zany_rev (p : Nat → Bool) (n : Nat) : zany (fun k => p (n - 1 - k)) n = zany p n := by
  have h1 := zcnt_pos (fun k => p (n - 1 - k)) n
  have h2 := zcnt_pos p n
  rw [zcnt_rev] at h1
  cases a : zany p n with
  | true => exact h1.mp (h2.mpr a)
  | false =>
    cases b : zany (fun k => p (n - 1 - k)) n with
    | false => rfl
    | true => exact absurd (h2.mp (h1.mpr b)) (by rw [a]; decide)
