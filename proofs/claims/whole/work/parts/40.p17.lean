/-! worlds cell by cell -/
def zD (p j : Nat) : Prop := (p = 1 ∧ (j = 5 ∨ j = 7)) ∨ (p = 2 ∧ j = 0) ∨ ((p = 3 ∨ p = 4 ∨ p = 6 ∨ p = 7 ∨ p = 8 ∨ p = 9) ∧ j < 28) ∨ (p = 5 ∧ j < 196) ∨ ((p = 10 ∨ p = 11 ∨ p = 12) ∧ j < 112) ∨ (p = 14 ∧ (j = 0 ∨ j = 3)) ∨ ((p = 15 ∨ p = 16) ∧ j < 4) ∨ ((p = 17 ∨ p = 18 ∨ p = 19) ∧ j < 12) ∨ (p = 20 ∧ (j = 1 ∨ j = 2 ∨ j = 3)) ∨ (p = 21 ∧ j < 20) ∨ ((p = 22 ∨ p = 23) ∧ j < 12) ∨ (p = 24 ∧ j < 28)
theorem zD_2 : zD 2 0 := Or.inr (Or.inl ⟨rfl, rfl⟩)
theorem zD_t {p j : Nat} (hp : p = 3 ∨ p = 4 ∨ p = 6 ∨ p = 7 ∨ p = 8 ∨ p = 9) (hj : j < 28) : zD p j := Or.inr (Or.inr (Or.inl ⟨hp, hj⟩))
theorem zD_c5 {j : Nat} (hj : j < 196) : zD 5 j := Or.inr (Or.inr (Or.inr (Or.inl ⟨rfl, hj⟩)))
theorem zD_cv {p j : Nat} (hp : p = 10 ∨ p = 11 ∨ p = 12) (hj : j < 112) : zD p j := Or.inr (Or.inr (Or.inr (Or.inr (Or.inl ⟨hp, hj⟩))))
theorem zD_14 {j : Nat} (hj : j = 0 ∨ j = 3) : zD 14 j := Or.inr (Or.inr (Or.inr (Or.inr (Or.inr (Or.inl ⟨rfl, hj⟩)))))
theorem zD_15 {p j : Nat} (hp : p = 15 ∨ p = 16) (hj : j < 4) : zD p j := Or.inr (Or.inr (Or.inr (Or.inr (Or.inr (Or.inr (Or.inl ⟨hp, hj⟩))))))
theorem zD_17 {p j : Nat} (hp : p = 17 ∨ p = 18 ∨ p = 19) (hj : j < 12) : zD p j := Or.inr (Or.inr (Or.inr (Or.inr (Or.inr (Or.inr (Or.inr (Or.inl ⟨hp, hj⟩)))))))
theorem zD_20 {j : Nat} (hj : j = 1 ∨ j = 2 ∨ j = 3) : zD 20 j := Or.inr (Or.inr (Or.inr (Or.inr (Or.inr (Or.inr (Or.inr (Or.inr (Or.inl ⟨rfl, hj⟩))))))))
theorem zD_21 {j : Nat} (hj : j < 20) : zD 21 j := Or.inr (Or.inr (Or.inr (Or.inr (Or.inr (Or.inr (Or.inr (Or.inr (Or.inr (Or.inl ⟨rfl, hj⟩)))))))))
theorem zD_22 {p j : Nat} (hp : p = 22 ∨ p = 23) (hj : j < 12) : zD p j := Or.inr (Or.inr (Or.inr (Or.inr (Or.inr (Or.inr (Or.inr (Or.inr (Or.inr (Or.inr (Or.inl ⟨hp, hj⟩))))))))))
theorem zD_24 {j : Nat} (hj : j < 28) : zD 24 j := Or.inr (Or.inr (Or.inr (Or.inr (Or.inr (Or.inr (Or.inr (Or.inr (Or.inr (Or.inr (Or.inr ⟨rfl, hj⟩))))))))))
theorem zD_1 {j : Nat} (hj : j = 5 ∨ j = 7) : zD 1 j := Or.inl ⟨rfl, hj⟩
theorem zD_le {p j : Nat} (h : zD p j) : 1 ≤ p ∧ p ≤ 24 ∧ p ≠ 13 := by
  rcases h with h | h | h | h | h | h | h | h | h | h | h | h <;> omega
theorem RTk_more {c c' : zs} {m m' : Nat → Int32} {K K' n t : Nat} (hn : n ≤ 28) (hK : K ≤ K') (ht : t < n)
    (hc : ∀ p j, (((p = 3 ∨ p = 4 ∨ p = 6 ∨ p = 7 ∨ p = 8 ∨ p = 9) ∧ j < n) ∨ (p = 5 ∧ j < 7 * n) ∨ ((p = 10 ∨ p = 11 ∨ p = 12) ∧ j < 4 * n)) → c' p j = c p j)
    (hm : ∀ j, ((51 ≤ j ∧ j < 51 + n) ∨ (79 ≤ j ∧ j < 79 + n) ∨ (107 ≤ j ∧ j < 107 + n) ∨ (135 ≤ j ∧ j < 135 + n) ∨ (163 ≤ j ∧ j < 163 + n) ∨ (191 ≤ j ∧ j < 191 + n) ∨ (219 ≤ j ∧ j < 219 + 12 * n)) → m' j = m j)
    (R : RTk c m K t) : RTk c' m' K' t := by
  have hl := (zln_eq R).2.2
  have hcv := (zcv_eq R).2
  obtain ⟨a1, ⟨a2, a2'⟩, ⟨a3, a3'⟩, ⟨a4, a4'⟩, a5, a6, a7, a8, a9⟩ := R
  have L : ∀ u, u < n → zln c' u = zln c u := fun u hu => by rw [zln, zln, hc 4 u (by omega)]
  have C : ∀ u, u < n → ∀ k, k < 7 → zch c' u k = zch c u k := fun u hu k hk => by rw [zch, zch, hc 5 _ (by omega)]
  refine ⟨?_, ⟨?_, ?_⟩, ⟨fun k hk => ?_, ?_⟩, ⟨fun h1 => ?_, fun h1 => ?_⟩, ?_, ⟨?_, ?_⟩, ?_, ?_, fun q hq => ?_⟩
  · rw [hm _ (by omega), hc 3 t (by omega)]; exact a1
  · rw [hc 4 t (by omega)]; exact a2
  · rw [L t ht]; exact a2'
  · rw [L t ht] at hk
    rw [hc 5 _ (by omega)]; exact a3 k hk
  · rw [L t ht, C t ht _ (by omega)]; exact a3'
  · rw [L t ht] at h1
    rw [hm _ (by omega)]; exact a4 h1
  · rw [L t ht] at h1
    obtain ⟨b1, b2, b3, b4⟩ := a4' h1
    have e1 : zch c' t (zln c' t - 2) = zch c t (zln c t - 2) := by rw [L t ht, C t ht _ (by omega)]
    have e2 := L (zch c t (zln c t - 2)) (by omega)
    rw [e1, e2, L t ht, hm _ (by omega)]
    refine ⟨b1, b2, b3, fun k hk => ?_⟩
    rw [C _ (by omega) k (by omega), C t ht k (by omega)]; exact b4 k hk
  · rw [hm _ (by omega), hc 6 t (by omega)]; exact a5
  · rw [hm _ (by omega), hc 7 t (by omega)]; exact a6.1
  · rw [hc 7 t (by omega)]; exact zr_le a6.2 (by omega)
  · rw [hm _ (by omega), hc 8 t (by omega)]; exact a7
  · rw [hm _ (by omega), hc 9 t (by omega)]; exact a8
  · rw [hc 9 t (by omega)] at hq
    have hq4 : q < 4 := Nat.lt_of_lt_of_le hq hcv
    rw [hm _ (by omega), hm _ (by omega), hm _ (by omega), hc 10 _ (by omega), hc 11 _ (by omega), hc 12 _ (by omega)]
    exact a9 q hq
theorem RBx_pt {c c' : zs} {m m' : Nat → Int32} {n n' : Nat} (hc : ∀ p j, 14 ≤ p → zD p j → c' p j = c p j) (hm : ∀ j, (j = 2 ∨ j = 3 ∨ (555 ≤ j ∧ j < 599)) → m' j = m j) (hN : n ≤ n') (R : RBx c m n) : RBx c' m' n' := by
  obtain ⟨np, nx, h1, h2, ⟨h3, h3'⟩, ⟨h4, h4'⟩, h5, h6⟩ := R
  refine ⟨np, nx, h1, h2, ⟨?_, ?_⟩, ⟨?_, ?_⟩, fun i hi => ?_, fun i hi => ?_⟩
  · rw [hc 14 0 (by omega) (zD_14 (by decide))]; exact h3
  · rw [hm 2 (by omega)]; exact h3'
  · rw [hc 14 3 (by omega) (zD_14 (by decide))]; exact h4
  · rw [hm 3 (by omega)]; exact h4'
  · rw [hc 15 i (by omega) (zD_15 (by decide) (by omega)), hc 16 i (by omega) (zD_15 (by decide) (by omega)), hm (555 + i) (by omega), hm (559 + i) (by omega)]; exact h5 i hi
  · obtain ⟨b1, ⟨b2, b3⟩, b4⟩ := h6 i hi
    rw [hc 17 i (by omega) (zD_17 (by decide) (by omega)), hc 18 i (by omega) (zD_17 (by decide) (by omega)), hc 19 i (by omega) (zD_17 (by decide) (by omega)), hm (563 + i) (by omega), hm (575 + i) (by omega), hm (587 + i) (by omega)]
    exact ⟨b1, ⟨b2, zr_le b3 hN⟩, b4⟩
theorem RJn_pt {c c' : zs} {m m' : Nat → Int32} (hc : ∀ p j, 14 ≤ p → zD p j → c' p j = c p j) (hm : ∀ j, (4 ≤ j ∧ j < 27) → m' j = m j) (R : RJn c m) : RJn c' m' := by
  obtain ⟨ne, h1, h2, h3, h4, h5⟩ := R
  refine ⟨ne, h1, ?_, ?_, fun i hi => ?_, fun i hi => ?_⟩
  · rw [hc 20 1 (by omega) (zD_20 (by decide)), hm 6 (by omega)]; exact h2
  · rw [hc 20 2 (by omega) (zD_20 (by decide)), hc 20 3 (by omega) (zD_20 (by decide)), hm 4 (by omega), hm 5 (by omega)]; exact h3
  · rw [hc 21 i (by omega) (zD_21 (by omega)), hm (7 + i) (by omega)]; exact h4 i hi
  · rw [hc 21 i (by omega) (zD_21 (by omega))]; exact h5 i hi
theorem ROb_pt {c c' : zs} {m m' : Nat → Int32} (hc : ∀ p j, 14 ≤ p → zD p j → c' p j = c p j) (hm : ∀ j, (27 ≤ j ∧ j < 51) → m' j = m j) (R : ROb c m) : ROb c' m' := by
  intro i hi
  rw [hc 22 i (by omega) (zD_22 (by decide) (by omega)), hc 23 i (by omega) (zD_22 (by decide) (by omega)), hm (27 + i) (by omega), hm (39 + i) (by omega)]; exact R i hi
theorem REx_pt {c c' : zs} {m m' : Nat → Int32} (h1 : c' 1 7 = c 1 7) (hc : ∀ p j, 14 ≤ p → zD p j → c' p j = c p j) (hm : ∀ j, (599 ≤ j ∧ j < 628) → m' j = m j) (R : REx c m) : REx c' m' := by
  obtain ⟨ne, g1, g2, g3⟩ := R
  refine ⟨ne, g1, by rw [h1, hm 599 (by omega)]; exact g2, fun i hi => ?_⟩
  rw [hc 24 i (by omega) (zD_24 (by omega)), hm (600 + i) (by omega)]; exact g3 i hi
theorem RS_dom {c c' : zs} {m m' : Nat → Int32} {K n : Nat} (hc : ∀ p j, zD p j → c' p j = c p j) (hm : ∀ j, j < 628 → m' j = m j) (R : RS c m K n) : RS c' m' K n := by
  obtain ⟨a1, a2, a3, a4, a5, a6, a7, a8⟩ := R
  have hc' : ∀ p j, 14 ≤ p → zD p j → c' p j = c p j := fun p j _ h => hc p j h
  refine ⟨a1, ?_, fun t ht => RTk_more a1 (Nat.le_refl K) ht (fun p j h => by
    rcases h with ⟨h, hj⟩ | ⟨rfl, hj⟩ | ⟨h, hj⟩
    · exact hc p j (zD_t h (by omega))
    · exact hc 5 j (zD_c5 (by omega))
    · exact hc p j (zD_cv h (by omega))) (fun j h => hm j (by omega)) (a3 t ht), RBx_pt hc' (fun j h => hm j (by omega)) (Nat.le_refl n) a4, RJn_pt hc' (fun j h => hm j (by omega)) a5, ROb_pt hc' (fun j h => hm j (by omega)) a6, ?_, REx_pt (hc 1 7 (zD_1 (by decide))) hc' (fun j h => hm j (by omega)) a8⟩
  · rw [hc 2 0 zD_2, hm 1 (by omega)]; exact a2
  · unfold RTm at *
    rw [hc 1 5 (zD_1 (by decide)), hm 0 (by omega)]; exact a7
/-- one token more -/
theorem RS_new {c c' : zs} {m m' : Nat → Int32} {K n : Nat} (R : RS c m K n) (h28 : n < 28)
    (hc : ∀ p j, 1 ≤ p → p ≤ 24 → p ≠ 13 → ¬ (p = 2 ∧ j = 0) → ¬ ((p = 3 ∨ p = 4 ∨ p = 6 ∨ p = 7 ∨ p = 8 ∨ p = 9) ∧ j = n) → ¬ (p = 5 ∧ 7 * n ≤ j) → ¬ ((p = 10 ∨ p = 11 ∨ p = 12) ∧ 4 * n ≤ j) → c' p j = c p j)
    (hm : ∀ j, j < 628 → j ≠ 1 → j ≠ 51 + n → j ≠ 79 + n → j ≠ 107 + n → j ≠ 135 + n → j ≠ 163 + n → j ≠ 191 + n → ¬ (219 + 12 * n ≤ j ∧ j < 555) → m' j = m j)
    (h2 : c' 2 0 = nI (n + 1)) (h1 : m' 1 = nI (n + 1)) (hT : RTk c' m' (K + 1) n) : RS c' m' (K + 1) (n + 1) := by
  obtain ⟨a1, a2, a3, a4, a5, a6, a7, a8⟩ := R
  have hc' : ∀ p j, 14 ≤ p → zD p j → c' p j = c p j := fun p j hp h => hc p j (by omega) (zD_le h).2.1 (by omega) (by omega) (by omega) (by omega) (by omega)
  refine ⟨by omega, ⟨h2, h1⟩, fun t ht => ?_, RBx_pt hc' (fun j h => hm j (by omega) (by omega) (by omega) (by omega) (by omega) (by omega) (by omega) (by omega) (by omega)) (Nat.le_succ n) a4, RJn_pt hc' (fun j h => hm j (by omega) (by omega) (by omega) (by omega) (by omega) (by omega) (by omega) (by omega) (by omega)) a5, ROb_pt hc' (fun j h => hm j (by omega) (by omega) (by omega) (by omega) (by omega) (by omega) (by omega) (by omega) (by omega)) a6, ?_, REx_pt (hc 1 7 (by omega) (by omega) (by omega) (by omega) (by omega) (by omega) (by omega)) hc' (fun j h => hm j (by omega) (by omega) (by omega) (by omega) (by omega) (by omega) (by omega) (by omega) (by omega)) a8⟩
  · by_cases e : t = n
    · subst e; exact hT
    · exact RTk_more (n := n) a1 (Nat.le_succ K) (by omega) (fun p j h => hc p j (by omega) (by omega) (by omega) (by omega) (by omega) (by omega) (by omega)) (fun j h => hm j (by omega) (by omega) (by omega) (by omega) (by omega) (by omega) (by omega) (by omega) (by omega)) (a3 t (by omega))
  · unfold RTm at *
    rw [hc 1 5 (by omega) (by omega) (by omega) (by omega) (by omega) (by omega) (by omega), hm 0 (by omega) (by omega) (by omega) (by omega) (by omega) (by omega) (by omega) (by omega) (by omega)]
    exact ⟨a7.1, zr_le a7.2 (by omega)⟩
/-! copies -/
def zQcp (σ : zs) (k d N : Nat) (x : Option (Int32 × zs)) : Prop := ∃ σ' : zs, x = some (0, σ') ∧ (∀ p, p ≠ d → σ' p = σ p) ∧ ∀ j, j < N → σ' d j = σ k j
theorem zcp_row (σ : zs) (k d : Nat) {N : Nat} {n : Int32} (hz : zcp 0 0 n N N = true) (hn : n.toNatClampNeg = N) : zQcp σ k d N (zg (zcp (0 : Int32) (0 : Int32) n N N) (some (0, zR σ d (va_cpy (σ k) (σ d) (0 : Int32).toNatClampNeg (0 : Int32).toNatClampNeg n.toNatClampNeg)))) := by
  rw [hz, zg_t, hn]
  refine ⟨_, rfl, fun p hp => zR_ne _ _ hp, fun j hj => ?_⟩
  rw [zR_self]
  simp only [zcl0, va_cpy]
  rw [if_pos ⟨Nat.zero_le _, by omega⟩]
  congr 1; omega
def zCp (a b : Nat) (done : Nat → Nat → Bool) (σ s : zs) : Prop := (∀ p, ¬ (1 + b ≤ p ∧ p ≤ 24 + b) → s p = σ p) ∧ ∀ p j, 1 ≤ p → p ≤ 24 → done p j = true → s (p + b) j = σ (p + a) j
theorem zCp_row {a b : Nat} {done : Nat → Nat → Bool} {σ s : zs} {k N : Nat} {x : Option (Int32 × zs)} (hab : (a = 0 ∧ b = 24) ∨ (a = 24 ∧ b = 0)) (hk : 1 ≤ k ∧ k ≤ 24) (hd : ∀ j, done k j = false) (h : zCp a b done σ s) (q : zQcp s (k + a) (k + b) N x) : ∃ s' : zs, x = some (0, s') ∧ zCp a b (fun p j => done p j || (p == k && decide (j < N))) σ s' := by
  obtain ⟨s', e, f, g⟩ := q
  refine ⟨s', e, fun p hp => by rw [f p (by omega), h.1 p hp], fun p j p1 p2 hh => ?_⟩
  by_cases w : p = k
  · subst w
    have hh' : (done p j || (p == p && decide (j < N))) = true := hh
    rw [hd j] at hh'
    have hj : j < N := by simpa using hh'
    rw [g j hj, h.1 (p + a) (by omega)]
  · rw [f (p + b) (by omega)]
    refine h.2 p j p1 p2 ?_
    simpa [w] using hh
theorem zCp_put {a b : Nat} {done : Nat → Nat → Bool} {σ s : zs} {k j0 : Nat} {v : Int32} (hab : (a = 0 ∧ b = 24) ∨ (a = 24 ∧ b = 0)) (hk : 1 ≤ k ∧ k ≤ 24) (h : zCp a b done σ s) (hv : v = s (k + a) j0) : zCp a b (fun p j => done p j || (p == k && j == j0)) σ (zp s (k + b) j0 v) := by
  refine ⟨fun p hp => by rw [zp_n _ _ _ (by omega)]; exact h.1 p hp, fun p j p1 p2 hh => ?_⟩
  by_cases w : p = k ∧ j = j0
  · obtain ⟨rfl, rfl⟩ := w
    rw [zp_e, hv, h.1 (p + a) (by omega)]
  · rw [zp_rd, if_neg (by omega)]
    refine h.2 p j p1 p2 ?_
    rcases (Bool.or_eq_true _ _).mp hh with q | q
    · exact q
    · exfalso; simp at q; exact w q
theorem zab1 : ((0 : Nat) = 0 ∧ (24 : Nat) = 24) ∨ ((0 : Nat) = 24 ∧ (24 : Nat) = 0) := by decide
theorem zab2 : ((24 : Nat) = 0 ∧ (0 : Nat) = 24) ∨ ((24 : Nat) = 24 ∧ (0 : Nat) = 0) := by decide
theorem cr_3_27 (σ : zs) : zQcp σ 3 27 28 (f_X8_copyRow_3_27 σ) := zcp_row σ 3 27 (n := 28) (by decide) (by decide)
theorem cr_27_3 (σ : zs) : zQcp σ 27 3 28 (f_X8_copyRow_27_3 σ) := zcp_row σ 27 3 (n := 28) (by decide) (by decide)
theorem cr_4_28 (σ : zs) : zQcp σ 4 28 28 (f_X8_copyRow_4_28 σ) := zcp_row σ 4 28 (n := 28) (by decide) (by decide)
theorem cr_28_4 (σ : zs) : zQcp σ 28 4 28 (f_X8_copyRow_28_4 σ) := zcp_row σ 28 4 (n := 28) (by decide) (by decide)
theorem cr_5_29 (σ : zs) : zQcp σ 5 29 196 (f_X8_copyRow_5_29 σ) := zcp_row σ 5 29 (n := 196) (by decide) (by decide)
theorem cr_29_5 (σ : zs) : zQcp σ 29 5 196 (f_X8_copyRow_29_5 σ) := zcp_row σ 29 5 (n := 196) (by decide) (by decide)
theorem cr_6_30 (σ : zs) : zQcp σ 6 30 28 (f_X8_copyRow_6_30 σ) := zcp_row σ 6 30 (n := 28) (by decide) (by decide)
theorem cr_30_6 (σ : zs) : zQcp σ 30 6 28 (f_X8_copyRow_30_6 σ) := zcp_row σ 30 6 (n := 28) (by decide) (by decide)
theorem cr_7_31 (σ : zs) : zQcp σ 7 31 28 (f_X8_copyRow_7_31 σ) := zcp_row σ 7 31 (n := 28) (by decide) (by decide)
theorem cr_31_7 (σ : zs) : zQcp σ 31 7 28 (f_X8_copyRow_31_7 σ) := zcp_row σ 31 7 (n := 28) (by decide) (by decide)
theorem cr_8_32 (σ : zs) : zQcp σ 8 32 28 (f_X8_copyRow_8_32 σ) := zcp_row σ 8 32 (n := 28) (by decide) (by decide)
theorem cr_32_8 (σ : zs) : zQcp σ 32 8 28 (f_X8_copyRow_32_8 σ) := zcp_row σ 32 8 (n := 28) (by decide) (by decide)
theorem cr_9_33 (σ : zs) : zQcp σ 9 33 28 (f_X8_copyRow_9_33 σ) := zcp_row σ 9 33 (n := 28) (by decide) (by decide)
theorem cr_33_9 (σ : zs) : zQcp σ 33 9 28 (f_X8_copyRow_33_9 σ) := zcp_row σ 33 9 (n := 28) (by decide) (by decide)
theorem cr_10_34 (σ : zs) : zQcp σ 10 34 112 (f_X8_copyRow_10_34 σ) := zcp_row σ 10 34 (n := 112) (by decide) (by decide)
theorem cr_34_10 (σ : zs) : zQcp σ 34 10 112 (f_X8_copyRow_34_10 σ) := zcp_row σ 34 10 (n := 112) (by decide) (by decide)
theorem cr_11_35 (σ : zs) : zQcp σ 11 35 112 (f_X8_copyRow_11_35 σ) := zcp_row σ 11 35 (n := 112) (by decide) (by decide)
theorem cr_35_11 (σ : zs) : zQcp σ 35 11 112 (f_X8_copyRow_35_11 σ) := zcp_row σ 35 11 (n := 112) (by decide) (by decide)
theorem cr_12_36 (σ : zs) : zQcp σ 12 36 112 (f_X8_copyRow_12_36 σ) := zcp_row σ 12 36 (n := 112) (by decide) (by decide)
theorem cr_36_12 (σ : zs) : zQcp σ 36 12 112 (f_X8_copyRow_36_12 σ) := zcp_row σ 36 12 (n := 112) (by decide) (by decide)
theorem cr_15_39 (σ : zs) : zQcp σ 15 39 4 (f_X8_copyRow_15_39 σ) := zcp_row σ 15 39 (n := 4) (by decide) (by decide)
theorem cr_39_15 (σ : zs) : zQcp σ 39 15 4 (f_X8_copyRow_39_15 σ) := zcp_row σ 39 15 (n := 4) (by decide) (by decide)
theorem cr_16_40 (σ : zs) : zQcp σ 16 40 4 (f_X8_copyRow_16_40 σ) := zcp_row σ 16 40 (n := 4) (by decide) (by decide)
theorem cr_40_16 (σ : zs) : zQcp σ 40 16 4 (f_X8_copyRow_40_16 σ) := zcp_row σ 40 16 (n := 4) (by decide) (by decide)
theorem cr_17_41 (σ : zs) : zQcp σ 17 41 12 (f_X8_copyRow_17_41 σ) := zcp_row σ 17 41 (n := 12) (by decide) (by decide)
theorem cr_41_17 (σ : zs) : zQcp σ 41 17 12 (f_X8_copyRow_41_17 σ) := zcp_row σ 41 17 (n := 12) (by decide) (by decide)
theorem cr_18_42 (σ : zs) : zQcp σ 18 42 12 (f_X8_copyRow_18_42 σ) := zcp_row σ 18 42 (n := 12) (by decide) (by decide)
theorem cr_42_18 (σ : zs) : zQcp σ 42 18 12 (f_X8_copyRow_42_18 σ) := zcp_row σ 42 18 (n := 12) (by decide) (by decide)
theorem cr_19_43 (σ : zs) : zQcp σ 19 43 12 (f_X8_copyRow_19_43 σ) := zcp_row σ 19 43 (n := 12) (by decide) (by decide)
theorem cr_43_19 (σ : zs) : zQcp σ 43 19 12 (f_X8_copyRow_43_19 σ) := zcp_row σ 43 19 (n := 12) (by decide) (by decide)
theorem cr_21_45 (σ : zs) : zQcp σ 21 45 20 (f_X8_copyRow_21_45 σ) := zcp_row σ 21 45 (n := 20) (by decide) (by decide)
theorem cr_45_21 (σ : zs) : zQcp σ 45 21 20 (f_X8_copyRow_45_21 σ) := zcp_row σ 45 21 (n := 20) (by decide) (by decide)
theorem cr_22_46 (σ : zs) : zQcp σ 22 46 12 (f_X8_copyRow_22_46 σ) := zcp_row σ 22 46 (n := 12) (by decide) (by decide)
theorem cr_46_22 (σ : zs) : zQcp σ 46 22 12 (f_X8_copyRow_46_22 σ) := zcp_row σ 46 22 (n := 12) (by decide) (by decide)
theorem cr_23_47 (σ : zs) : zQcp σ 23 47 12 (f_X8_copyRow_23_47 σ) := zcp_row σ 23 47 (n := 12) (by decide) (by decide)
theorem cr_47_23 (σ : zs) : zQcp σ 47 23 12 (f_X8_copyRow_47_23 σ) := zcp_row σ 47 23 (n := 12) (by decide) (by decide)
theorem cr_24_48 (σ : zs) : zQcp σ 24 48 28 (f_X8_copyRow_24_48 σ) := zcp_row σ 24 48 (n := 28) (by decide) (by decide)
theorem cr_48_24 (σ : zs) : zQcp σ 48 24 28 (f_X8_copyRow_48_24 σ) := zcp_row σ 48 24 (n := 28) (by decide) (by decide)
theorem p_copyS (σ : zs) : ∃ σ' : zs, f_X6_copyFrom_t25_1 σ = some (0, σ') ∧ (∀ p, ¬ (25 ≤ p ∧ p ≤ 48) → σ' p = σ p) ∧ ∀ p j, zD p j → σ' (p + 24) j = σ (p + 0) j := by
  have g0 : zCp 0 24 (fun _ _ => false) σ σ := ⟨fun _ _ => rfl, fun _ _ _ _ h => by cases h⟩
  have g1 := zCp_put (k := 2) (j0 := 0) (v := σ 2 0) zab1 (by decide) g0 rfl
  obtain ⟨s2, e2, g2⟩ := zCp_row (k := 3) zab1 (by decide) (fun j => by simp) g1 (cr_3_27 (zp σ 26 0 (σ 2 0)))
  obtain ⟨s3, e3, g3⟩ := zCp_row (k := 4) zab1 (by decide) (fun j => by simp) g2 (cr_4_28 s2)
  obtain ⟨s4, e4, g4⟩ := zCp_row (k := 5) zab1 (by decide) (fun j => by simp) g3 (cr_5_29 s3)
  obtain ⟨s5, e5, g5⟩ := zCp_row (k := 6) zab1 (by decide) (fun j => by simp) g4 (cr_6_30 s4)
  obtain ⟨s6, e6, g6⟩ := zCp_row (k := 7) zab1 (by decide) (fun j => by simp) g5 (cr_7_31 s5)
  obtain ⟨s7, e7, g7⟩ := zCp_row (k := 8) zab1 (by decide) (fun j => by simp) g6 (cr_8_32 s6)
  obtain ⟨s8, e8, g8⟩ := zCp_row (k := 9) zab1 (by decide) (fun j => by simp) g7 (cr_9_33 s7)
  obtain ⟨s9, e9, g9⟩ := zCp_row (k := 10) zab1 (by decide) (fun j => by simp) g8 (cr_10_34 s8)
  obtain ⟨s10, e10, g10⟩ := zCp_row (k := 11) zab1 (by decide) (fun j => by simp) g9 (cr_11_35 s9)
  obtain ⟨s11, e11, g11⟩ := zCp_row (k := 12) zab1 (by decide) (fun j => by simp) g10 (cr_12_36 s10)
  have g12 := zCp_put (k := 14) (j0 := 0) (v := s11 14 0) zab1 (by decide) g11 rfl
  obtain ⟨s13, e13, g13⟩ := zCp_row (k := 15) zab1 (by decide) (fun j => by simp) g12 (cr_15_39 (zp s11 38 0 (s11 14 0)))
  obtain ⟨s14, e14, g14⟩ := zCp_row (k := 16) zab1 (by decide) (fun j => by simp) g13 (cr_16_40 s13)
  have g15 := zCp_put (k := 14) (j0 := 3) (v := s14 14 3) zab1 (by decide) g14 rfl
  obtain ⟨s16, e16, g16⟩ := zCp_row (k := 17) zab1 (by decide) (fun j => by simp) g15 (cr_17_41 (zp s14 38 3 (s14 14 3)))
  obtain ⟨s17, e17, g17⟩ := zCp_row (k := 18) zab1 (by decide) (fun j => by simp) g16 (cr_18_42 s16)
  obtain ⟨s18, e18, g18⟩ := zCp_row (k := 19) zab1 (by decide) (fun j => by simp) g17 (cr_19_43 s17)
  obtain ⟨s19, e19, g19⟩ := zCp_row (k := 21) zab1 (by decide) (fun j => by simp) g18 (cr_21_45 s18)
  have g20 := zCp_put (k := 20) (j0 := 1) (v := s19 20 1) zab1 (by decide) g19 rfl
  have g21 := zCp_put (k := 20) (j0 := 2) (v := (zp s19 44 1 (s19 20 1)) 20 2) zab1 (by decide) g20 rfl
  have g22 := zCp_put (k := 20) (j0 := 3) (v := (zp (zp s19 44 1 (s19 20 1)) 44 2 ((zp s19 44 1 (s19 20 1)) 20 2)) 20 3) zab1 (by decide) g21 rfl
  obtain ⟨s23, e23, g23⟩ := zCp_row (k := 22) zab1 (by decide) (fun j => by simp) g22 (cr_22_46 (zp (zp (zp s19 44 1 (s19 20 1)) 44 2 ((zp s19 44 1 (s19 20 1)) 20 2)) 44 3 ((zp (zp s19 44 1 (s19 20 1)) 44 2 ((zp s19 44 1 (s19 20 1)) 20 2)) 20 3)))
  obtain ⟨s24, e24, g24⟩ := zCp_row (k := 23) zab1 (by decide) (fun j => by simp) g23 (cr_23_47 s23)
  have g25 := zCp_put (k := 1) (j0 := 5) (v := s24 1 5) zab1 (by decide) g24 rfl
  obtain ⟨s26, e26, g26⟩ := zCp_row (k := 24) zab1 (by decide) (fun j => by simp) g25 (cr_24_48 (zp s24 25 5 (s24 1 5)))
  have g27 := zCp_put (k := 1) (j0 := 7) (v := s26 1 7) zab1 (by decide) g26 rfl
  rw [f_X6_copyFrom_t25_1, f_X7_copyFrom_t26_2]
  rw [e2, zb_s]
  rw [e3, zb_s]
  rw [e4, zb_s]
  rw [e5, zb_s]
  rw [e6, zb_s]
  rw [e7, zb_s]
  rw [e8, zb_s]
  rw [e9, zb_s]
  rw [e10, zb_s]
  rw [e11, zb_s]
  rw [zb_s]
  rw [f_X0_copyFrom_t38_14]
  rw [e13, zb_s]
  rw [e14, zb_s]
  rw [e16, zb_s]
  rw [e17, zb_s]
  rw [e18, zb_s]
  rw [zb_s]
  rw [f_X2_copyFrom_t44_20]
  rw [e19, zb_s]
  rw [zb_s]
  rw [e23, zb_s]
  rw [e24, zb_s]
  rw [e26, zb_s]
  refine ⟨_, rfl, fun p hp => g27.1 p hp, fun p j hD => ?_⟩
  have hD0 := hD
  unfold zD at hD0
  refine g27.2 p j (zD_le hD).1 (zD_le hD).2.1 ?_
  rcases hD0 with ⟨rfl, rfl | rfl⟩ | ⟨rfl, rfl⟩ | ⟨rfl | rfl | rfl | rfl | rfl | rfl, hj⟩ | ⟨rfl, hj⟩ | ⟨rfl | rfl | rfl, hj⟩ | ⟨rfl, rfl | rfl⟩ | ⟨rfl | rfl, hj⟩ | ⟨rfl | rfl | rfl, hj⟩ | ⟨rfl, rfl | rfl | rfl⟩ | ⟨rfl, hj⟩ | ⟨rfl | rfl, hj⟩ | ⟨rfl, hj⟩ <;> simp [*]
theorem p_copyR (σ : zs) : ∃ σ' : zs, f_X6_copyFrom_25 σ = some (0, σ') ∧ (∀ p, ¬ (1 ≤ p ∧ p ≤ 24) → σ' p = σ p) ∧ ∀ p j, zD p j → σ' (p + 0) j = σ (p + 24) j := by
  have g0 : zCp 24 0 (fun _ _ => false) σ σ := ⟨fun _ _ => rfl, fun _ _ _ _ h => by cases h⟩
  have g1 := zCp_put (k := 2) (j0 := 0) (v := σ 26 0) zab2 (by decide) g0 rfl
  obtain ⟨s2, e2, g2⟩ := zCp_row (k := 3) zab2 (by decide) (fun j => by simp) g1 (cr_27_3 (zp σ 2 0 (σ 26 0)))
  obtain ⟨s3, e3, g3⟩ := zCp_row (k := 4) zab2 (by decide) (fun j => by simp) g2 (cr_28_4 s2)
  obtain ⟨s4, e4, g4⟩ := zCp_row (k := 5) zab2 (by decide) (fun j => by simp) g3 (cr_29_5 s3)
  obtain ⟨s5, e5, g5⟩ := zCp_row (k := 6) zab2 (by decide) (fun j => by simp) g4 (cr_30_6 s4)
  obtain ⟨s6, e6, g6⟩ := zCp_row (k := 7) zab2 (by decide) (fun j => by simp) g5 (cr_31_7 s5)
  obtain ⟨s7, e7, g7⟩ := zCp_row (k := 8) zab2 (by decide) (fun j => by simp) g6 (cr_32_8 s6)
  obtain ⟨s8, e8, g8⟩ := zCp_row (k := 9) zab2 (by decide) (fun j => by simp) g7 (cr_33_9 s7)
  obtain ⟨s9, e9, g9⟩ := zCp_row (k := 10) zab2 (by decide) (fun j => by simp) g8 (cr_34_10 s8)
  obtain ⟨s10, e10, g10⟩ := zCp_row (k := 11) zab2 (by decide) (fun j => by simp) g9 (cr_35_11 s9)
  obtain ⟨s11, e11, g11⟩ := zCp_row (k := 12) zab2 (by decide) (fun j => by simp) g10 (cr_36_12 s10)
  have g12 := zCp_put (k := 14) (j0 := 0) (v := s11 38 0) zab2 (by decide) g11 rfl
  obtain ⟨s13, e13, g13⟩ := zCp_row (k := 15) zab2 (by decide) (fun j => by simp) g12 (cr_39_15 (zp s11 14 0 (s11 38 0)))
  obtain ⟨s14, e14, g14⟩ := zCp_row (k := 16) zab2 (by decide) (fun j => by simp) g13 (cr_40_16 s13)
  have g15 := zCp_put (k := 14) (j0 := 3) (v := s14 38 3) zab2 (by decide) g14 rfl
  obtain ⟨s16, e16, g16⟩ := zCp_row (k := 17) zab2 (by decide) (fun j => by simp) g15 (cr_41_17 (zp s14 14 3 (s14 38 3)))
  obtain ⟨s17, e17, g17⟩ := zCp_row (k := 18) zab2 (by decide) (fun j => by simp) g16 (cr_42_18 s16)
  obtain ⟨s18, e18, g18⟩ := zCp_row (k := 19) zab2 (by decide) (fun j => by simp) g17 (cr_43_19 s17)
  obtain ⟨s19, e19, g19⟩ := zCp_row (k := 21) zab2 (by decide) (fun j => by simp) g18 (cr_45_21 s18)
  have g20 := zCp_put (k := 20) (j0 := 1) (v := s19 44 1) zab2 (by decide) g19 rfl
  have g21 := zCp_put (k := 20) (j0 := 2) (v := (zp s19 20 1 (s19 44 1)) 44 2) zab2 (by decide) g20 rfl
  have g22 := zCp_put (k := 20) (j0 := 3) (v := (zp (zp s19 20 1 (s19 44 1)) 20 2 ((zp s19 20 1 (s19 44 1)) 44 2)) 44 3) zab2 (by decide) g21 rfl
  obtain ⟨s23, e23, g23⟩ := zCp_row (k := 22) zab2 (by decide) (fun j => by simp) g22 (cr_46_22 (zp (zp (zp s19 20 1 (s19 44 1)) 20 2 ((zp s19 20 1 (s19 44 1)) 44 2)) 20 3 ((zp (zp s19 20 1 (s19 44 1)) 20 2 ((zp s19 20 1 (s19 44 1)) 44 2)) 44 3)))
  obtain ⟨s24, e24, g24⟩ := zCp_row (k := 23) zab2 (by decide) (fun j => by simp) g23 (cr_47_23 s23)
  have g25 := zCp_put (k := 1) (j0 := 5) (v := s24 25 5) zab2 (by decide) g24 rfl
  obtain ⟨s26, e26, g26⟩ := zCp_row (k := 24) zab2 (by decide) (fun j => by simp) g25 (cr_48_24 (zp s24 1 5 (s24 25 5)))
  have g27 := zCp_put (k := 1) (j0 := 7) (v := s26 25 7) zab2 (by decide) g26 rfl
  rw [f_X6_copyFrom_25, f_X7_copyFrom_26]
  rw [e2, zb_s]
  rw [e3, zb_s]
  rw [e4, zb_s]
  rw [e5, zb_s]
  rw [e6, zb_s]
  rw [e7, zb_s]
  rw [e8, zb_s]
  rw [e9, zb_s]
  rw [e10, zb_s]
  rw [e11, zb_s]
  rw [zb_s]
  rw [f_X0_copyFrom_38]
  rw [e13, zb_s]
  rw [e14, zb_s]
  rw [e16, zb_s]
  rw [e17, zb_s]
  rw [e18, zb_s]
  rw [zb_s]
  rw [f_X2_copyFrom_44]
  rw [e19, zb_s]
  rw [zb_s]
  rw [e23, zb_s]
  rw [e24, zb_s]
  rw [e26, zb_s]
  refine ⟨_, rfl, fun p hp => g27.1 p hp, fun p j hD => ?_⟩
  have hD0 := hD
  unfold zD at hD0
  refine g27.2 p j (zD_le hD).1 (zD_le hD).2.1 ?_
  rcases hD0 with ⟨rfl, rfl | rfl⟩ | ⟨rfl, rfl⟩ | ⟨rfl | rfl | rfl | rfl | rfl | rfl, hj⟩ | ⟨rfl, hj⟩ | ⟨rfl | rfl | rfl, hj⟩ | ⟨rfl, rfl | rfl⟩ | ⟨rfl | rfl, hj⟩ | ⟨rfl | rfl | rfl, hj⟩ | ⟨rfl, rfl | rfl | rfl⟩ | ⟨rfl, hj⟩ | ⟨rfl | rfl, hj⟩ | ⟨rfl, hj⟩ <;> simp [*]
/-! save and restore -/
def zQsv (τ : zs) (x : Option (Int32 × zs)) : Prop := ∃ τ' : zs, x = some (τ 66 1, τ') ∧ (∀ p, p ≠ 65 → p ≠ 67 → τ' p = τ p) ∧ (∀ j, j ≠ 2 → j ≠ 3 → τ' 65 j = τ 65 j) ∧ τ' 65 2 = 1 ∧ ∀ j, j < 628 → τ' 67 j = τ 66 j
theorem m_save (τ : zs) : zQsv τ (f_X9_save τ) := by
  rw [f_X9_save]
  refine zli1 (Q := zQsv τ) 628 (fun j s a => a = nI j ∧ (∀ p, p ≠ 67 → s p = (zp τ 65 3 0) p) ∧ ∀ i, i < j → s 67 i = τ 66 i) ?_ ?_ 1000 (by omega) ⟨rfl, fun _ _ => rfl, fun i hi => absurd hi (by omega)⟩
  · rintro j hj s a ⟨rfl, hf, hv⟩ rec kk
    rw [f_X9_save_7, show (628 : Int32) = nI 628 from rfl]
    simp (disch := omega) only [znI_le, zg_in, zcl, nI_1]
    rw [if_neg (by omega)]
    refine kk _ _ ⟨rfl, fun p hp => by rw [zp_n _ _ _ hp, hf p hp], fun i hi => ?_⟩
    by_cases e : i = j
    · subst e
      rw [zp_e, hf 66 (by decide), zp_n _ _ _ (by decide)]
    · rw [zp_o _ _ e]; exact hv i (by omega)
  · rintro s a ⟨rfl, hf, hv⟩ rec
    rw [f_X9_save_7, show (628 : Int32) = nI 628 from rfl, if_pos (Int32.le_refl _), zG1, zC1]
    refine ⟨zp s 65 2 1, ?_, fun p p1 p2 => ?_, fun j j1 j2 => ?_, zp_e _ _ _ _, fun j hj => ?_⟩
    · rw [zp_n _ _ _ (by decide), hf 66 (by decide), zp_n _ _ _ (by decide)]
    · rw [zp_n _ _ _ p1, hf p p2, zp_n _ _ _ p1]
    · rw [zp_o _ _ j1, hf 65 (by decide), zp_o _ _ j2]
    · rw [zp_n _ _ _ (by decide)]; exact hv j hj
def zQrs (τ : zs) (x : Option (Int32 × zs)) : Prop := ∃ τ' : zs, x = some (τ 67 1, τ') ∧ (∀ p, p ≠ 65 → p ≠ 66 → τ' p = τ p) ∧ (∀ j, j ≠ 3 → τ' 65 j = τ 65 j) ∧ τ' 65 3 = 0 ∧ ∀ j, j < 628 → τ' 66 j = τ 67 j
theorem m_restore {τ : zs} (h : τ 65 2 = 1) : zQrs τ (f_X9_restore τ) := by
  rw [f_X9_restore, h, if_neg (by decide), f_X9_restore_13, zp_e, if_pos rfl]
  refine zli1 (Q := zQrs τ) 628 (fun j s a => a = nI j ∧ (∀ p, p ≠ 66 → s p = (zp τ 65 3 0) p) ∧ ∀ i, i < j → s 66 i = τ 67 i) ?_ ?_ 1000 (by omega) ⟨rfl, fun _ _ => rfl, fun i hi => absurd hi (by omega)⟩
  · rintro j hj s a ⟨rfl, hf, hv⟩ rec kk
    rw [f_X9_restore_27, show (628 : Int32) = nI 628 from rfl]
    simp (disch := omega) only [znI_le, zg_in, zcl, nI_1]
    rw [if_neg (by omega)]
    refine kk _ _ ⟨rfl, fun p hp => by rw [zp_n _ _ _ hp, hf p hp], fun i hi => ?_⟩
    by_cases e : i = j
    · subst e
      rw [zp_e, hf 67 (by decide), zp_n _ _ _ (by decide)]
    · rw [zp_o _ _ e]; exact hv i (by omega)
  · rintro s a ⟨rfl, hf, hv⟩ rec
    rw [f_X9_restore_27, show (628 : Int32) = nI 628 from rfl, if_pos (Int32.le_refl _), zG1, zC1]
    refine ⟨_, ?_, fun p p1 p2 => ?_, fun j j1 => ?_, ?_, hv⟩
    · rw [hv 1 (by decide)]
    · rw [hf p p2, zp_n _ _ _ p1]
    · rw [hf 65 (by decide), zp_o _ _ j1]
    · rw [hf 65 (by decide), zp_e]
section PP
variable {σ : zs} {K : Nat}
theorem k_save (R : RA σ K) : ∃ (r : Int32) (σ1 σ2 : zs), f_X8_save σ = some (r, σ1) ∧ f_X9_save σ1 = some (r, σ2) ∧ RA σ2 (K + 1) := by
  obtain ⟨⟨n, hS⟩, a2, a3, a4, a5⟩ := R
  obtain ⟨s1, e1, f1, g1⟩ := p_copyS σ
  obtain ⟨s2, e2, f2, f3, f4, f5⟩ := m_save (zp s1 0 2 1)
  have c2 : (zp s1 0 2 1) 2 0 = nI n := by rw [zp_n _ _ _ (by decide), f1 2 (by decide)]; exact hS.2.1.1
  have c66 : (zp s1 0 2 1) 66 = σ 66 := by rw [zp_n _ _ _ (by decide), f1 66 (by decide)]
  have c1 : (zp s1 0 2 1) 66 1 = nI n := by rw [c66]; exact hS.2.1.2
  have fr : ∀ p, p ≠ 0 → p ≠ 65 → p ≠ 67 → ¬ (25 ≤ p ∧ p ≤ 48) → s2 p = σ p := fun p p1 p2 p3 p4 => by rw [f2 p p2 p3, zp_n _ _ _ p1, f1 p p4]
  have gj : ∀ j, j ≠ 2 → j ≠ 3 → s2 65 j = σ 65 j := fun j j1 j2 => by rw [f3 j j1 j2, zp_n _ _ _ (by decide), f1 65 (by decide)]
  refine ⟨nI n, zp s1 0 2 1, s2, ?_, by rw [e2, c1], ⟨n, ?_⟩, Or.inr ⟨?_, f4, n, ?_⟩, ?_, ?_, ?_⟩
  · rw [f_X8_save, e1, zb_s, c2]
  · rw [fr 66 (by decide) (by decide) (by decide) (by decide)]
    exact RS_mono (Nat.le_succ K) (RS_cong (fun p hp => fr p (by omega) (by omega) (by omega) (by omega)) hS)
  · rw [f2 0 (by decide) (by decide), zp_e]
  · refine RS_mono (Nat.le_succ K) (RS_dom (c := σ) (m := σ 66) (fun p j h => ?_) (fun j hj => ?_) hS)
    · have hp := zD_le h
      show s2 (p + 24) j = σ p j
      rw [f2 (p + 24) (by omega) (by omega), zp_n _ _ _ (by omega)]
      exact g1 p j h
    · rw [f5 j hj, c66]
  · simp only [RRp, fr 49 (by decide) (by decide) (by decide) (by decide), fr 50 (by decide) (by decide) (by decide) (by decide), fr 51 (by decide) (by decide) (by decide) (by decide), fr 70 (by decide) (by decide) (by decide) (by decide), fr 71 (by decide) (by decide) (by decide) (by decide), gj 10 (by decide) (by decide)] at a3 ⊢
    exact a3
  · simp only [RTx, fr 52 (by decide) (by decide) (by decide) (by decide), fr 53 (by decide) (by decide) (by decide) (by decide), fr 68 (by decide) (by decide) (by decide) (by decide), gj 5 (by decide) (by decide), gj 6 (by decide) (by decide)] at a4 ⊢
    exact a4
  · simp only [RSB, fr 63 (by decide) (by decide) (by decide) (by decide)] at a5 ⊢
    exact a5
theorem k_restore (R : RA σ K) : zok (f_L_restore_0_75 σ) (fun τ => f_X9_restore τ) (K + 1) := by
  have R0 := R
  obtain ⟨⟨n, hS⟩, a2, a3, a4, a5⟩ := R
  rcases a2 with ⟨b1, b2⟩ | ⟨b1, b2, n2, hK⟩
  · refine zokq_e 2 1 R0 ⟨σ, 0, ?_, zQx_refl σ⟩ (fun _ => rfl) (by decide) (fun τ hv => ⟨zp τ 65 3 1, 0, ?_, zp_e _ _ _ _, zMx_3 _ _⟩)
    · rw [f_X8_restore, b1, f_X8_needState, if_pos rfl]; rfl
    · rw [f_X9_restore, hv 65 (by decide) (by decide), b2, if_pos rfl, f_X9_restore_13, zp_e, if_neg (by decide)]
  · obtain ⟨s1, e1, f1, g1⟩ := p_copyR σ
    have k2 : s1 2 0 = nI n2 := by
      rw [g1 2 0 zD_2]; exact hK.2.1.1
    have k65 : (zp s1 75 0 (nI n2)) 65 = σ 65 := by rw [zp_n _ _ _ (by decide), f1 65 (by decide)]
    obtain ⟨s2, e2, f2, f3, f4, f5⟩ := m_restore (τ := zp s1 75 0 (nI n2)) (by rw [k65]; exact b2)
    have fr : ∀ p, p ≠ 65 → p ≠ 66 → p ≠ 75 → ¬ (1 ≤ p ∧ p ≤ 24) → s2 p = σ p := fun p p1 p2 p3 p4 => by rw [f2 p p1 p2, zp_n _ _ _ p3, f1 p p4]
    have k67 : (zp s1 75 0 (nI n2)) 67 = σ 67 := by rw [zp_n _ _ _ (by decide), f1 67 (by decide)]
    refine zok_0 (r := nI n2) (σ1 := s1) (σ2 := s2) ?_ ?_ f4 (f2 75 (by decide) (by decide)) (RA_new (n := n2) R0 ?_ (fun p hp => fr p (by omega) (by omega) (by omega) (by omega)) (fun j hj => by rw [f3 j (by omega), k65]))
    · rw [f_X8_restore, b1, f_X8_needState, if_neg (by decide), zx_0, e1, zb_s, k2]
    · show f_X9_restore _ = _
      rw [e2, k67]
      have := hK.2.1.2
      rw [this]
    · refine RS_mono (Nat.le_succ K) (RS_dom (c := zkp σ) (m := σ 67) (fun p j h => ?_) (fun j hj => ?_) hK)
      · have hp := zD_le h
        rw [f2 p (by omega) (by omega), zp_n _ _ _ (by omega)]
        exact g1 p j h
      · rw [f5 j hj, k67]
end PP
