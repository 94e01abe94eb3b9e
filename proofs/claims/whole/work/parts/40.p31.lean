/-! derive -/
theorem zcp_n {a b l N0 N1 : Nat} (h0 : a + l ≤ N0) (h1 : b + l ≤ N1) (hN0 : N0 < 2147483648) (hN1 : N1 < 2147483648) : zcp (nI a) (nI b) (nI l) N0 N1 = true := by
  have ea : (nI a).toNatClampNeg = a := nI_clamp (by omega)
  have eb : (nI b).toNatClampNeg = b := nI_clamp (by omega)
  have el : (nI l).toNatClampNeg = l := nI_clamp (by omega)
  have pa : (0 : Int32) ≤ nI a := nI_pos' (by omega)
  have pb : (0 : Int32) ≤ nI b := nI_pos' (by omega)
  have pl : (0 : Int32) ≤ nI l := nI_pos' (by omega)
  simp only [zcp, ea, eb, el, pa, pb, pl, h0, h1, decide_true, Bool.and_true]
/-- alike but for the token n -/
def zNt (c c' : zs) (n : Nat) : Prop := ∀ p j, ¬ (p = 2 ∧ j = 0) → ¬ ((p = 3 ∨ p = 4 ∨ p = 6 ∨ p = 7 ∨ p = 8 ∨ p = 9) ∧ j = n) → ¬ (p = 5 ∧ 7 * n ≤ j) → ¬ ((p = 10 ∨ p = 11 ∨ p = 12) ∧ 4 * n ≤ j) → c' p j = c p j
def zMd (σ σ' : zs) (n t l : Nat) (s : Int32) : Prop := zNt σ σ' n ∧ (∀ p, (p < 2 ∨ 9 < p) → σ' p = σ p) ∧ σ' 2 0 = nI (n + 1) ∧ σ' 3 n = σ 3 t ∧ σ' 4 n = nI (l + 1) ∧ (∀ k, k < l → σ' 5 (n * 7 + k) = σ 5 (t * 7 + k)) ∧ σ' 5 (n * 7 + l) = nI n ∧ σ' 6 n = (1 : Int32) <<< (s &&& 31) ∧ σ' 7 n = 0 ∧ σ' 8 n = -1 ∧ σ' 9 n = 0
theorem p_makeDerived {σ : zs} {n t l : Nat} (hc : σ 2 0 = nI n) (hn : n < 28) (ht : t < n) (hl : σ 4 t = nI l) (h7 : l < 7) (s : Int32) : ∃ σ' : zs, f_X7_makeDerived σ s (nI t) = some (nI n, σ') ∧ zMd σ σ' n t l s := by
  have ex : f_X7_makeDerived σ s (nI t) = some (nI n, zp (zp (zp (zp (zp (zp (zR (zp (zp σ 3 n (σ 3 t)) 4 n (nI (l + 1))) 5 (va_cpy (σ 5) (σ 5) (t * 7) (n * 7) l)) 5 (n * 7 + l) (nI n)) 6 n ((1 : Int32) <<< (s &&& 31))) 7 n 0) 8 n (-1)) 9 n 0) 2 0 (nI (n + 1))) := by
    rw [f_X7_makeDerived, hc]
    simp (disch := omega) only [zg_in, zcl, zk7, nI_mul, nI_add, zp_n, zp_o, zR_ne, hl, nI_1, zcp_n, zg_t]
    rw [f_X7_startToken]
    simp (disch := omega) only [zg_in, zcl, zp_n, zR_ne, hc, nI_1, zb_s]
  refine ⟨_, ex, fun p j h1 h2 h3 h4 => ?_, fun p hp => ?_, zp_e _ _ _ _, ?_, ?_, fun k hk => ?_, ?_, ?_, ?_, ?_, ?_⟩
  · rw [zp_rd, if_neg (by omega), zp_rd, if_neg (by omega), zp_rd, if_neg (by omega), zp_rd, if_neg (by omega), zp_rd, if_neg (by omega), zp_rd, if_neg (by omega)]
    by_cases e : p = 5
    · subst e
      rw [zR_self]
      simp only [va_cpy]
      rw [if_neg (by omega)]
    · rw [zR_ne _ _ e, zp_rd, if_neg (by omega), zp_rd, if_neg (by omega)]
  · rw [zp_n _ _ _ (by omega), zp_n _ _ _ (by omega), zp_n _ _ _ (by omega), zp_n _ _ _ (by omega), zp_n _ _ _ (by omega), zp_n _ _ _ (by omega), zR_ne _ _ (by omega), zp_n _ _ _ (by omega), zp_n _ _ _ (by omega)]
  · simp (disch := omega) only [zp_n, zR_ne, zp_e]
  · simp (disch := omega) only [zp_n, zR_ne, zp_e]
  · rw [zp_n _ _ _ (by decide), zp_n _ _ _ (by decide), zp_n _ _ _ (by decide), zp_n _ _ _ (by decide), zp_n _ _ _ (by decide), zp_o _ _ (by omega), zR_self]
    simp only [va_cpy]
    rw [if_pos ⟨by omega, by omega⟩]
    congr 1; omega
  · rw [zp_n _ _ _ (by decide), zp_n _ _ _ (by decide), zp_n _ _ _ (by decide), zp_n _ _ _ (by decide), zp_n _ _ _ (by decide), zp_e]
  · rw [zp_n _ _ _ (by decide), zp_n _ _ _ (by decide), zp_n _ _ _ (by decide), zp_n _ _ _ (by decide), zp_e]
  · rw [zp_n _ _ _ (by decide), zp_n _ _ _ (by decide), zp_n _ _ _ (by decide), zp_e]
  · rw [zp_n _ _ _ (by decide), zp_n _ _ _ (by decide), zp_e]
  · rw [zp_n _ _ _ (by decide), zp_e]
def zQdl (s0 : zs) (n : Nat) (xs : List zcav) (x : Option zO) : Prop := ∃ s : zs, x = some (0, nI n, s) ∧ zNt s0 s n ∧ (∀ p, p ≠ 9 → p ≠ 10 → p ≠ 11 → p ≠ 12 → s p = s0 p) ∧ s 9 n = nI xs.length ∧ ∀ q, q < xs.length → s 10 (n * 4 + q) = nI (xs.getD q z00).1 ∧ s 11 (n * 4 + q) = nI (xs.getD q z00).2.1 ∧ s 12 (n * 4 + q) = (xs.getD q z00).2.2
theorem p_derLoop {s0 : zs} {n : Nat} {xs : List zcav} (hn : n < 28) (hx : xs.length ≤ 4) (h9 : s0 9 n = 0) (h3 : s0 52 3 = nI xs.length) (hv : ∀ i, i < xs.length → s0 54 i = nI (xs.getD i z00).1 ∧ s0 55 i = nI (xs.getD i z00).2.1 ∧ s0 56 i = (xs.getD i z00).2.2) : zQdl s0 n xs (zlp2 f_X8_derive_114 1000 s0 (nI n) 0) := by
  rw [zi0]
  refine zli2 (Q := zQdl s0 n xs) xs.length (fun j s a b => a = nI n ∧ b = nI j ∧ zNt s0 s n ∧ (∀ p, p ≠ 9 → p ≠ 10 → p ≠ 11 → p ≠ 12 → s p = s0 p) ∧ s 9 n = nI j ∧ ∀ q, q < j → s 10 (n * 4 + q) = nI (xs.getD q z00).1 ∧ s 11 (n * 4 + q) = nI (xs.getD q z00).2.1 ∧ s 12 (n * 4 + q) = (xs.getD q z00).2.2) ?_ ?_ 1000 (by omega) ⟨rfl, rfl, fun _ _ _ _ _ _ => rfl, fun _ _ _ _ _ => rfl, h9, fun q hq => absurd hq (Nat.not_lt_zero q)⟩
  · rintro j hj s a b ⟨rfl, rfl, hN, hf, h9, hq⟩ rec kk
    obtain ⟨x1, x2, x3⟩ := hv j hj
    rw [f_X8_derive_114, hf 52 (by decide) (by decide) (by decide) (by decide), h3, if_neg (by rw [znI_le (by omega) (by omega)]; omega), zg_in _ (show j < 4 by omega) (by decide), zg_in _ (show j < 4 by omega) (by decide), zg_in _ (show j < 4 by omega) (by decide), zcl (by omega), hf 54 (by decide) (by decide) (by decide) (by decide), hf 55 (by decide) (by decide) (by decide) (by decide), hf 56 (by decide) (by decide) (by decide) (by decide), x1, x2, x3, p_addCaveat hn (show j < 4 by omega) h9, zb_s, nI_1]
    refine kk _ _ _ ⟨rfl, rfl, fun p k k1 k2 k3 k4 => ?_, fun p p1 p2 p3 p4 => ?_, zp_e _ _ _ _, fun q hq2 => ?_⟩
    · rw [zp_rd, if_neg (by omega), zp_rd, if_neg (by omega), zp_rd, if_neg (by omega), zp_rd, if_neg (by omega)]
      exact hN p k k1 k2 k3 k4
    · rw [zp_n _ _ _ p1, zp_n _ _ _ p4, zp_n _ _ _ p3, zp_n _ _ _ p2]; exact hf p p1 p2 p3 p4
    · by_cases e : q = j
      · subst e
        refine ⟨?_, ?_, ?_⟩
        · rw [zp_n _ _ _ (by decide), zp_n _ _ _ (by decide), zp_n _ _ _ (by decide), zp_e]
        · rw [zp_n _ _ _ (by decide), zp_n _ _ _ (by decide), zp_e]
        · rw [zp_n _ _ _ (by decide), zp_e]
      · obtain ⟨y1, y2, y3⟩ := hq q (by omega)
        refine ⟨?_, ?_, ?_⟩
        · rw [zp_n _ _ _ (by decide), zp_n _ _ _ (by decide), zp_n _ _ _ (by decide), zp_o _ _ (by omega)]; exact y1
        · rw [zp_n _ _ _ (by decide), zp_n _ _ _ (by decide), zp_o _ _ (by omega), zp_n _ _ _ (by decide)]; exact y2
        · rw [zp_n _ _ _ (by decide), zp_o _ _ (by omega), zp_n _ _ _ (by decide), zp_n _ _ _ (by decide)]; exact y3
  · rintro s a b ⟨rfl, rfl, hN, hf, h9, hq⟩ rec
    rw [f_X8_derive_114, hf 52 (by decide) (by decide) (by decide) (by decide), h3, if_pos (Int32.le_refl _)]
    exact ⟨s, rfl, hN, hf, h9, hq⟩
def zQdm (t0 : zs) (n : Nat) (xs : List zcav) (x : Option (Int32 × zs)) : Prop := ∃ s : zs, x = some (nI n, s) ∧ (∀ p, p ≠ 66 → s p = t0 p) ∧ (∀ j, j ≠ 191 + n → ¬ (219 + 12 * n ≤ j ∧ j < 555) → s 66 j = t0 66 j) ∧ s 66 (191 + n) = nI xs.length ∧ ∀ q, q < xs.length → s 66 (219 + 3 * (4 * n + q)) = nI (xs.getD q z00).1 ∧ s 66 (219 + 3 * (4 * n + q) + 1) = nI (xs.getD q z00).2.1 ∧ s 66 (219 + 3 * (4 * n + q) + 2) = (xs.getD q z00).2.2
theorem m_derLoop {t0 : zs} {n : Nat} {xs : List zcav} (hn : n < 28) (hx : xs.length ≤ 4) (h9 : t0 66 (191 + n) = 0) (h14 : t0 65 14 = nI xs.length) (hv : ∀ i, i < xs.length → t0 72 (3 * i) = nI (xs.getD i z00).1 ∧ t0 72 (3 * i + 1) = nI (xs.getD i z00).2.1 ∧ t0 72 (3 * i + 2) = (xs.getD i z00).2.2) : zQdm t0 n xs (zlp2 f_X9_derive_160 1000 t0 (nI n) 0) := by
  rw [zi0]
  refine zli2 (Q := zQdm t0 n xs) xs.length (fun j s a b => a = nI n ∧ b = nI j ∧ (∀ p, p ≠ 66 → s p = t0 p) ∧ (∀ j, j ≠ 191 + n → ¬ (219 + 12 * n ≤ j ∧ j < 555) → s 66 j = t0 66 j) ∧ s 66 (191 + n) = nI j ∧ ∀ q, q < j → s 66 (219 + 3 * (4 * n + q)) = nI (xs.getD q z00).1 ∧ s 66 (219 + 3 * (4 * n + q) + 1) = nI (xs.getD q z00).2.1 ∧ s 66 (219 + 3 * (4 * n + q) + 2) = (xs.getD q z00).2.2) ?_ ?_ 1000 (by omega) ⟨rfl, rfl, fun _ _ => rfl, fun _ _ _ => rfl, h9, fun q hq => absurd hq (Nat.not_lt_zero q)⟩
  · rintro j hj s a b ⟨rfl, rfl, hf, hN, h9, hq⟩ rec kk
    obtain ⟨x1, x2, x3⟩ := hv j hj
    rw [f_X9_derive_160, hf 65 (by decide), hf 72 (by decide), h14, if_neg (by rw [znI_le (by omega) (by omega)]; omega)]
    simp (disch := omega) only [zk3, zk1, zk2, nI_mul, nI_add, zg_in, zcl, x1, x2, x3, m_adds hn (show j < 4 by omega) h9, zb_s]
    refine kk _ _ _ ⟨rfl, rfl, fun p hp => ?_, fun k k1 k2 => ?_, zp_e _ _ _ _, fun q hq2 => ?_⟩
    · rw [zp_n _ _ _ hp, zp_n _ _ _ hp, zp_n _ _ _ hp, zp_n _ _ _ hp]; exact hf p hp
    · rw [zp_o _ _ (by omega), zp_o _ _ (by omega), zp_o _ _ (by omega), zp_o _ _ (by omega)]; exact hN k k1 k2
    · by_cases e : q = j
      · subst e
        refine ⟨?_, ?_, ?_⟩
        · rw [zp_o _ _ (by omega), zp_o _ _ (by omega), zp_o _ _ (by omega), zp_e]
        · rw [zp_o _ _ (by omega), zp_o _ _ (by omega), zp_e]
        · rw [zp_o _ _ (by omega), zp_e]
      · obtain ⟨y1, y2, y3⟩ := hq q (by omega)
        refine ⟨?_, ?_, ?_⟩
        · rw [zp_o _ _ (by omega), zp_o _ _ (by omega), zp_o _ _ (by omega), zp_o _ _ (by omega)]; exact y1
        · rw [zp_o _ _ (by omega), zp_o _ _ (by omega), zp_o _ _ (by omega), zp_o _ _ (by omega)]; exact y2
        · rw [zp_o _ _ (by omega), zp_o _ _ (by omega), zp_o _ _ (by omega), zp_o _ _ (by omega)]; exact y3
  · rintro s a b ⟨rfl, rfl, hf, hN, h9, hq⟩ rec
    rw [f_X9_derive_160, hf 65 (by decide), h14, if_pos (Int32.le_refl _)]
    exact ⟨s, rfl, hf, hN, h9, hq⟩
/-- a derived token -/
theorem RTk_der {c : zs} {m : Nat → Int32} {K n t : Nat} {xs : List zcav} (hn : n < 28) (ht : t < n) (P : RTk c m K t) (hl : zln c t < 7) (hx : xs.length ≤ 4) (hok : ∀ i, i < xs.length → zcok (xs.getD i z00))
    (c3 : c 3 n = c 3 t) (m3 : m (51 + n) = m (51 + t)) (c4 : c 4 n = nI (zln c t + 1)) (c5 : ∀ k, k < zln c t → c 5 (n * 7 + k) = c 5 (t * 7 + k)) (c5n : c 5 (n * 7 + zln c t) = nI n) (m79 : m (79 + n) = nI t) (c6 : zr (c 6 n) 64) (m6 : m (107 + n) = c 6 n) (c7 : c 7 n = 0) (m7 : m (163 + n) = 0) (c8 : c 8 n = -1) (m8 : m (135 + n) = -1) (c9 : c 9 n = nI xs.length) (m9 : m (191 + n) = nI xs.length)
    (cv : ∀ q, q < xs.length → c 10 (n * 4 + q) = nI (xs.getD q z00).1 ∧ c 11 (n * 4 + q) = nI (xs.getD q z00).2.1 ∧ c 12 (n * 4 + q) = (xs.getD q z00).2.2)
    (mv : ∀ q, q < xs.length → m (219 + 3 * (4 * n + q)) = nI (xs.getD q z00).1 ∧ m (219 + 3 * (4 * n + q) + 1) = nI (xs.getD q z00).2.1 ∧ m (219 + 3 * (4 * n + q) + 2) = (xs.getD q z00).2.2) : RTk c m K n := by
  have l1 : zln c n = zln c t + 1 := by
    have : zln c n = zN (c 4 n) := rfl
    rw [this, c4]; exact zN_nI (by omega)
  have lt := P.2.1.2
  have h0 : ∀ k, k < zln c t → zch c n k = zch c t k := fun k hk => by rw [zch, zch, c5 k hk]
  have hz : zch c n (zln c t) = n := by rw [zch, c5n]; exact zN_nI (by omega)
  have h1 : zch c n (zln c n - 2) = t := by
    rw [show zln c n - 2 = zln c t - 1 by omega, h0 _ (by omega)]; exact P.2.2.1.2
  refine ⟨⟨by rw [m3, c3]; exact P.1.1, by rw [c3]; exact P.1.2⟩, ⟨by rw [c4]; exact zr_i (by omega) (by omega), by omega⟩, ⟨fun k hk => ?_, ?_⟩, ⟨fun h => absurd h (by omega), fun _ => ?_⟩, ⟨m6, c6⟩, ⟨by rw [m7, c7], by rw [c7]; exact zr_i (v := 0) (by omega) (by decide)⟩, ⟨by rw [m8, c8], Or.inl c8⟩, ⟨by rw [m9, c9], by rw [c9]; exact zr_i (by omega) (by omega)⟩, fun q hq => ?_⟩
  · by_cases e : k = zln c t
    · rw [e, c5n]; exact zr_i (by omega) (by omega)
    · rw [c5 k (by omega)]; exact zr_le (P.2.2.1.1 k (by omega)) (by omega)
  · rw [show zln c n - 1 = zln c t by omega]; exact hz
  · rw [h1]
    refine ⟨m79, ht, by omega, fun k hk => ?_⟩
    exact (h0 k (by omega)).symm
  · rw [c9, zN_nI (by omega)] at hq
    obtain ⟨x1, x2, x3⟩ := cv q hq
    obtain ⟨y1, y2, y3⟩ := mv q hq
    obtain ⟨o1, o2, o3, o4, o5⟩ := hok q hq
    rw [Nat.add_zero, y1, y2, y3, x1, x2, x3]
    have ek : ∀ k, k < 5 → ((nI (xs.getD q z00).1 = nI k) → (xs.getD q z00).1 = k) := fun k hk e => by rw [znI_inj (by omega) (by omega)] at e; exact e
    exact ⟨⟨rfl, rfl, rfl⟩, zr_i o1 (by omega), zr_i o2 (by omega), fun e => zr_i (o3 (ek 0 (by decide) e)) (by omega), fun e => zr_i (o4 (ek 2 (by decide) e)) (by omega), fun e => o5 (ek 4 (by decide) e)⟩
theorem RA_txt {σ σ' : zs} {K n : Nat} (R : RA σ K) (hS : RS σ' (σ' 66) (K + 1) n) (hf : ∀ p, (p = 0 ∨ (25 ≤ p ∧ p ≤ 48) ∨ p = 63 ∨ p = 67) → σ' p = σ p) (h2 : σ' 65 2 = σ 65 2) (hr : RRp σ') (hx : RTx σ') : RA σ' (K + 1) := by
  obtain ⟨-, a2, a3, a4, a5⟩ := R
  refine ⟨⟨n, hS⟩, RKp_mono (Nat.le_succ K) (RKp_cong ⟨fun p hp => hf p (by omega), h2⟩ a2), hr, hx, ?_⟩
  simp only [RSB, hf 63 (by decide)] at a5 ⊢
  exact a5
theorem RTx_0 {σ : zs} (h1 : σ 52 1 = 0) (h2 : σ 65 5 = 0) (h3 : σ 65 6 = σ 52 2) : RTx σ := ⟨⟨0, by decide, ⟨h1, h2⟩, fun i hi => absurd hi (Nat.not_lt_zero i)⟩, h3⟩
theorem RRp_same {σ σ' : zs} (R : RRp σ) (hf : ∀ p, (p = 49 ∨ p = 50 ∨ p = 51 ∨ p = 70 ∨ p = 71) → σ' p = σ p) (h : σ' 65 10 = σ 65 10) : RRp σ' := by
  simp only [RRp, hf 49 (by decide), hf 50 (by decide), hf 51 (by decide), hf 70 (by decide), hf 71 (by decide), h] at R ⊢
  exact R
section PD
variable {σ : zs} {K : Nat}
theorem k_derive (R : RA σ K) (a b : Int32) : zok (f_L_derive_0_75 σ a b) (fun τ => f_X9_derive τ a b) (K + 1) := by
  have R0 := R
  obtain ⟨⟨n, hS⟩, a2, a3, ⟨⟨w, hw, ⟨w1, w2⟩, hx⟩, ep⟩, a5⟩ := R
  have hS0 := hS
  obtain ⟨hn, ⟨hc, hm⟩, ht, hbx, hjn, hob, htm, hex⟩ := hS
  have o21 : ∀ τ : zs, f_X9_derive_21 τ a b 1 = some (0, zp τ 65 3 1) := fun τ => by rw [f_X9_derive_21, zp_e, if_neg (by decide)]
  have hg : zsg (σ 53) w := fun i hi => (hx i hi).2.1
  rcases zcase a (n := 6) (by omega) with ⟨s, hs, rfl⟩ | ho
  · rcases zcase b (n := n) (by omega) with ⟨t, h, rfl⟩ | ho2
    · have T := ht t h
      have hh := RT_hold T
      obtain ⟨σ1, g1, g2⟩ := p_holdsToken (σ := σ) hn hs h
      have cl0 : f_X8_derive σ (nI s) (nI t) = zb (f_X8_holdsToken σ (nI s) (nI t)) (fun r8 σ9 => if r8 = 0 then (f_X8_derive_27 σ9 (nI s) (nI t) r8) else (zb (f_X1_readAll σ9) (fun r29 σ30 => f_X8_derive_27 σ30 (nI s) (nI t) r8))) := by
        rw [f_X8_derive, c_sub_in σ hs, zx_0, c_tok_in hc hn h, zx_0]
      have md0 : ∀ τ : zs, τ 66 = σ 66 → f_X9_derive τ (nI s) (nI t) = if zbit (σ 6 t) s = false then (zb (f_X9_reports (zp (zp τ 65 3 0) 65 5 0) 1 (nI t) 2) (fun r20 σ21 => some ((0 : Int32), zp σ21 65 3 r20))) else zb (f_X9_takesAll (zp τ 65 3 0)) (fun r8 σ9 => if r8 = 0 then (f_X9_derive_90 (zp σ9 65 5 0) (nI s) (nI t) r8 ((zp σ9 65 5 0) 65 11)) else (f_X9_derive_90 (zp σ9 65 5 0) (nI s) (nI t) r8 (-1))) := by
        intro τ e
        have e1 : (zp τ 65 3 0) 66 = σ 66 := by rw [zp_n _ _ _ (by decide)]; exact e
        rw [f_X9_derive, m_sub_in _ hs, zb_s, if_neg (by decide), m_tok_in (by rw [e]; exact hm) hn h, zb_s, if_neg (by decide), f_X9_derive_21, zp_e, if_pos rfl, zk107, nI_add, zg_in _ (by omega) (by decide), zcl (by omega), e1, hh.1, p_has _ _ (show s < 32 by omega), zb_s]
        simp only [bI_0']
      cases hz : zbit (σ 6 t) s with
      | false =>
        rw [hz] at g1
        rw [hz, if_neg (by decide)] at g2
        obtain ⟨g3, g4⟩ := g2
        have cl : f_X8_derive σ (nI s) (nI t) = some (3 + 1, 0, zp σ1 52 1 0) := by
          rw [cl0, g1, zb_s, if_pos (show bI false = 0 from rfl), f_X8_derive_27, f_X1_clear, zb_s, f_X8_needPermission, if_pos (show bI false = 0 from rfl)]; rfl
        obtain ⟨s2, k1, k2, k3⟩ := m_reports (zp (zp (zp σ1 52 1 0) 65 3 0) 65 5 0) 1 (nI t) 2
        have F : ∀ p, p ≠ 49 → p ≠ 50 → p ≠ 51 → p ≠ 52 → p ≠ 65 → p ≠ 70 → p ≠ 71 → (zp s2 65 3 2) p = σ p := fun p p1 p2 p3 p4 p5 p6 p7 => by
          rw [zp_n _ _ _ p5, k2.1 p p5 p6 p7, zp_n _ _ _ p5, zp_n _ _ _ p5, zp_n _ _ _ p4]; exact g3 p p1 p2 p3
        have F65 : ∀ j, j ≠ 3 → j ≠ 5 → j ≠ 10 → (zp s2 65 3 2) 65 j = σ 65 j := fun j j1 j2 j3 => by
          rw [zp_o _ _ j1, k2.2 j j3, zp_o _ _ j2, zp_o _ _ j1, zp_n _ _ _ (by decide), g3 65 (by decide) (by decide) (by decide)]
        have F52 : (zp s2 65 3 2) 52 = (zp σ1 52 1 0) 52 := by
          rw [zp_n _ _ _ (by decide), k2.1 52 (by decide) (by decide) (by decide), zp_n _ _ _ (by decide), zp_n _ _ _ (by decide)]
        refine zok_e (e := 3) (k := 2) (r' := 0) (σ1 := zp σ1 52 1 0) (σ2 := zp s2 65 3 2) cl rfl (by decide) ?_ (zp_e _ _ _ _) (RA_txt (n := n) R0 ?_ (fun p hp => F p (by omega) (by omega) (by omega) (by omega) (by omega) (by omega) (by omega)) (F65 2 (by decide) (by decide) (by decide)) ?_ (RTx_0 ?_ ?_ ?_))
        · show f_X9_derive _ _ _ = _
          rw [md0 _ (by rw [zp_n _ _ _ (by decide)]; exact g3 66 (by decide) (by decide) (by decide)), if_pos hz, k1, zb_s]
        · rw [F 66 (by decide) (by decide) (by decide) (by decide) (by decide) (by decide) (by decide)]
          exact RS_mono (Nat.le_succ K) (RS_cong (fun p hp => F p (by omega) (by omega) (by omega) (by omega) (by omega) (by omega) (by omega)) hS0)
        · refine RRp_of (L := [(1, nI t)]) (show 1 ≤ 3 by decide) (zRepC_cong (fun p hp => ?_) g4) (zRepM_cong (fun p hp => zp_n _ _ _ (by omega)) (zp_o _ _ (by decide)) k3)
          rw [zp_n _ _ _ (by omega), k2.1 p (by omega) (by omega) (by omega), zp_n _ _ _ (by omega), zp_n _ _ _ (by omega), zp_n _ _ _ (by omega)]
        · rw [F52, zp_e]
        · rw [zp_o _ _ (by decide), k2.2 5 (by decide), zp_e]
        · rw [F65 6 (by decide) (by decide) (by decide), F52, zp_o _ _ (by decide), g3 52 (by decide) (by decide) (by decide)]; exact ep
      | true =>
        rw [hz] at g1
        rw [hz, if_pos rfl] at g2
        rw [g2] at g1
        obtain ⟨s1, q1, q2, q3, q4, q5⟩ := p_readAll (s := σ) hg hw w1 rfl
        have cl1 : f_X8_derive σ (nI s) (nI t) = f_X8_derive_27 s1 (nI s) (nI t) (bI true) := by
          rw [cl0, g1, zb_s, if_neg (show ¬ bI true = 0 by decide), q1, zb_s]
        have S_f : ∀ p, p ≠ 52 → p ≠ 54 → p ≠ 55 → p ≠ 56 → (zp s1 52 1 0) p = σ p := fun p p1 p2 p3 p4 => by rw [zp_n _ _ _ p1]; exact q2 p p1 p2 p3 p4
        have tak : ∀ τ : zs, τ 65 = σ 65 → τ 68 = σ 68 → zQta (zp τ 65 3 0) 0 (zall (σ 53) w 4 0) (f_X9_takesAll (zp τ 65 3 0)) := fun τ e1 e2 => m_takesAll hg hw (by rw [zp_o _ _ (by decide), e1]; exact w2) (fun i hi => by rw [zp_n _ _ _ (by decide), e2]; exact (hx i hi).1)
        have hok := zall_ok hg 4 0 (Nat.zero_le w)
        cases ho : zall (σ 53) w 4 0 with
        | inl e =>
          rw [ho] at q5 hok
          have q5' : s1 52 2 = nI e := q5
          have he : e ≤ w := hok
          have cl : f_X8_derive σ (nI s) (nI t) = some (1 + 1, 0, zp s1 52 1 0) := by
            rw [cl1, f_X8_derive_27, f_X1_clear, zb_s, f_X8_needPermission, if_neg (by decide), zx_0, zp_o _ _ (by decide), q5', if_neg (z_m1 (by omega)), f_X8_derive_54, f_X8_needArgument, if_pos rfl]; rfl
          have tk := tak (zp s1 52 1 0) (S_f 65 (by decide) (by decide) (by decide) (by decide)) (S_f 68 (by decide) (by decide) (by decide) (by decide))
          rw [ho] at tk
          obtain ⟨b, t2, k1, k2, k3, k4, k5⟩ := tk
          subst k4
          have F : ∀ p, p ≠ 52 → p ≠ 54 → p ≠ 55 → p ≠ 56 → p ≠ 65 → p ≠ 72 → (zp (zp (zp t2 65 5 0) 65 6 (nI e)) 65 3 3) p = σ p := fun p p1 p2 p3 p4 p5 p6 => by
            rw [zp_n _ _ _ p5, zp_n _ _ _ p5, zp_n _ _ _ p5, k2 p p5 p6, zp_n _ _ _ p5]; exact S_f p p1 p2 p3 p4
          have F65 : ∀ j, j ≠ 3 → j ≠ 5 → j ≠ 6 → j ≠ 11 → j ≠ 12 → j ≠ 14 → (zp (zp (zp t2 65 5 0) 65 6 (nI e)) 65 3 3) 65 j = σ 65 j := fun j j1 j2 j3 j4 j5 j6 => by
            rw [zp_o _ _ j1, zp_o _ _ j3, zp_o _ _ j2, k3 j j4 j5 j6, zp_o _ _ j1, S_f 65 (by decide) (by decide) (by decide) (by decide)]
          have F52 : (zp (zp (zp t2 65 5 0) 65 6 (nI e)) 65 3 3) 52 = (zp s1 52 1 0) 52 := by
            rw [zp_n _ _ _ (by decide), zp_n _ _ _ (by decide), zp_n _ _ _ (by decide), k2 52 (by decide) (by decide), zp_n _ _ _ (by decide)]
          refine zok_e (e := 1) (k := 3) (r' := 0) (σ1 := zp s1 52 1 0) (σ2 := zp (zp (zp t2 65 5 0) 65 6 (nI e)) 65 3 3) cl rfl (by decide) ?_ (zp_e _ _ _ _) (RA_txt (n := n) R0 ?_ (fun p hp => F p (by omega) (by omega) (by omega) (by omega) (by omega) (by omega)) (F65 2 (by decide) (by decide) (by decide) (by decide) (by decide) (by decide)) (RRp_same a3 (fun p hp => F p (by omega) (by omega) (by omega) (by omega) (by omega) (by omega)) (F65 10 (by decide) (by decide) (by decide) (by decide) (by decide) (by decide))) (RTx_0 ?_ ?_ ?_))
          · show f_X9_derive _ _ _ = _
            rw [md0 _ (S_f 66 (by decide) (by decide) (by decide) (by decide)), if_neg (by rw [hz]; decide), k1, zb_s, if_pos (show bI false = 0 from rfl), zp_o _ _ (by decide), k5, f_X9_derive_90, if_pos (show bI false = 0 from rfl), f_X9_derive_128, zp_e, if_neg (by decide)]
          · rw [F 66 (by decide) (by decide) (by decide) (by decide) (by decide) (by decide)]
            exact RS_mono (Nat.le_succ K) (RS_cong (fun p hp => F p (by omega) (by omega) (by omega) (by omega) (by omega) (by omega)) hS0)
          · rw [F52, zp_e]
          · rw [zp_o _ _ (by decide), zp_o _ _ (by decide), zp_e]
          · rw [zp_o _ _ (by decide), zp_e, F52, zp_o _ _ (by decide)]; exact q5'.symm
        | inr xs =>
          rw [ho] at q5 hok
          obtain ⟨e1, e2, e3⟩ := q5
          obtain ⟨x4, xok⟩ := hok
          obtain ⟨hl, hl1, hl7⟩ := zln_eq T
          have S2 : (zp s1 52 1 0) 2 0 = nI n := by rw [S_f 2 (by decide) (by decide) (by decide) (by decide)]; exact hc
          have S4 : (zp s1 52 1 0) 4 t = nI (zln σ t) := by rw [S_f 4 (by decide) (by decide) (by decide) (by decide)]; exact hl
          have cl2 : f_X8_derive σ (nI s) (nI t) = if 28 ≤ n then f_X8_derive_94 (zp s1 52 1 0) (nI s) (nI t) 0 else if 7 ≤ zln σ t then f_X8_derive_94 (zp s1 52 1 0) (nI s) (nI t) 0 else f_X8_derive_94 (zp s1 52 1 0) (nI s) (nI t) 1 := by
            rw [cl1, f_X8_derive_27, f_X1_clear, zb_s, f_X8_needPermission, if_neg (by decide), zx_0, zp_o _ _ (by decide), e1, if_pos rfl, f_X8_derive_54, f_X8_needArgument, if_neg (by decide), zx_0, S2, zg_in _ (by omega) (by decide), zcl (by omega), S4]
            simp (disch := omega) only [zk28, zk7, znI_le]
          -- the reference up to its check of the room
          have md2 : ∀ τ : zs, τ 65 = σ 65 → τ 66 = σ 66 → τ 68 = σ 68 → ∃ t3 : zs, f_X9_derive τ (nI s) (nI t) = (if n = 28 ∨ zln σ t = 7 then f_X9_derive_128 t3 (nI s) (nI t) 4 else f_X9_derive_128 t3 (nI s) (nI t) 0) ∧ (∀ p, p ≠ 65 → p ≠ 69 → p ≠ 72 → t3 p = τ p) ∧ (∀ j, j ≠ 3 → j ≠ 5 → j ≠ 6 → j ≠ 11 → j ≠ 12 → j ≠ 14 → t3 65 j = τ 65 j) ∧ t3 65 5 = 0 ∧ t3 65 6 = -1 ∧ t3 65 14 = nI xs.length ∧ ∀ i, i < xs.length → t3 72 (3 * i) = nI (xs.getD i z00).1 ∧ t3 72 (3 * i + 1) = nI (xs.getD i z00).2.1 ∧ t3 72 (3 * i + 2) = (xs.getD i z00).2.2 := by
            intro τ d65 d66 d68
            have tk := tak τ d65 d68
            rw [ho] at tk
            obtain ⟨b, t2, k1, k2, k3, k4, k5, k6, k7⟩ := tk
            subst k4
            have e0 : f_X9_derive τ (nI s) (nI t) = f_X9_derive_90 (zp t2 65 5 0) (nI s) (nI t) (bI true) (-1) := by
              rw [md0 _ d66, if_neg (by rw [hz]; decide), k1, zb_s, if_neg (show ¬ bI true = 0 by decide)]
            have f66 : (zp (zp t2 65 5 0) 65 6 (-1)) 66 = σ 66 := by rw [zp_n _ _ _ (by decide), zp_n _ _ _ (by decide), k2 66 (by decide) (by decide), zp_n _ _ _ (by decide)]; exact d66
            have base : (∀ p, p ≠ 65 → p ≠ 69 → p ≠ 72 → (zp (zp t2 65 5 0) 65 6 (-1)) p = τ p) ∧ (∀ j, j ≠ 3 → j ≠ 5 → j ≠ 6 → j ≠ 11 → j ≠ 12 → j ≠ 14 → (zp (zp t2 65 5 0) 65 6 (-1)) 65 j = τ 65 j) ∧ (zp (zp t2 65 5 0) 65 6 (-1)) 65 5 = 0 ∧ (zp (zp t2 65 5 0) 65 6 (-1)) 65 6 = -1 ∧ (zp (zp t2 65 5 0) 65 6 (-1)) 65 14 = nI xs.length ∧ ∀ i, i < xs.length → (zp (zp t2 65 5 0) 65 6 (-1)) 72 (3 * i) = nI (xs.getD i z00).1 ∧ (zp (zp t2 65 5 0) 65 6 (-1)) 72 (3 * i + 1) = nI (xs.getD i z00).2.1 ∧ (zp (zp t2 65 5 0) 65 6 (-1)) 72 (3 * i + 2) = (xs.getD i z00).2.2 := by
              refine ⟨fun p p1 _ p3 => ?_, fun j j1 j2 j3 j4 j5 j6 => ?_, ?_, zp_e _ _ _ _, ?_, fun i hi => ?_⟩
              · rw [zp_n _ _ _ p1, zp_n _ _ _ p1, k2 p p1 p3, zp_n _ _ _ p1]
              · rw [zp_o _ _ j3, zp_o _ _ j2, k3 j j4 j5 j6, zp_o _ _ j1]
              · rw [zp_o _ _ (by decide), zp_e]
              · rw [zp_o _ _ (by decide), zp_o _ _ (by decide), k5, Nat.zero_add]
              · have := k6 i hi
                rw [Nat.zero_add] at this
                rw [zp_n _ _ _ (by decide), zp_n _ _ _ (by decide)]; exact this
            generalize hB : zp (zp t2 65 5 0) 65 6 (-1) = B at f66 base
            rw [e0, f_X9_derive_90, if_neg (show ¬ bI true = 0 by decide), hB, zG1, zC1, f66, hm]
            by_cases h28 : n = 28
            · refine ⟨B, ?_, base⟩
              rw [if_pos (by rw [h28]; rfl), if_pos (Or.inl h28)]
            · obtain ⟨t4, v1, v2, v3⟩ := m_chainOf (τ := B) (c := σ) hn (by rw [f66]; exact ht) h
              refine ⟨t4, ?_, fun p p1 p2 p3 => ?_, fun j j1 j2 j3 j4 j5 j6 => ?_, ?_, ?_, ?_, fun i hi => ?_⟩
              · rw [if_neg (by rw [zk28, znI_inj (by omega) (by omega)]; exact h28), v1, zb_s]
                by_cases h7 : zln σ t = 7
                · rw [if_pos (by rw [h7]; rfl), if_pos (Or.inr h7)]
                · rw [if_neg (by rw [zk7, znI_inj (by omega) (by omega)]; exact h7), if_neg (by omega)]
              · rw [v2 p p2]; exact base.1 p p1 p2 p3
              · rw [v2 65 (by decide)]; exact base.2.1 j j1 j2 j3 j4 j5 j6
              · rw [v2 65 (by decide)]; exact base.2.2.1
              · rw [v2 65 (by decide)]; exact base.2.2.2.1
              · rw [v2 65 (by decide)]; exact base.2.2.2.2.1
              · rw [v2 72 (by decide)]; exact base.2.2.2.2.2 i hi
          by_cases full : n = 28 ∨ zln σ t = 7
          · have cl : f_X8_derive σ (nI s) (nI t) = some (2 + 1, 0, zp s1 52 1 0) := by
              have e94 : f_X8_derive_94 (zp s1 52 1 0) (nI s) (nI t) 0 = some (2 + 1, 0, zp s1 52 1 0) := by
                rw [f_X8_derive_94, f_X8_needState, if_pos rfl]; rfl
              rw [cl2]
              by_cases h28 : 28 ≤ n
              · rw [if_pos h28]; exact e94
              · rw [if_neg h28, if_pos (by omega)]; exact e94
            obtain ⟨t3, v1, v2, v3, v4, v5, v6, v7⟩ := md2 (zp s1 52 1 0) (S_f 65 (by decide) (by decide) (by decide) (by decide)) (S_f 66 (by decide) (by decide) (by decide) (by decide)) (S_f 68 (by decide) (by decide) (by decide) (by decide))
            have F : ∀ p, p ≠ 52 → p ≠ 54 → p ≠ 55 → p ≠ 56 → p ≠ 65 → p ≠ 69 → p ≠ 72 → (zp t3 65 3 4) p = σ p := fun p p1 p2 p3 p4 p5 p6 p7 => by
              rw [zp_n _ _ _ p5, v2 p p5 p6 p7]; exact S_f p p1 p2 p3 p4
            have F65 : ∀ j, j ≠ 3 → j ≠ 5 → j ≠ 6 → j ≠ 11 → j ≠ 12 → j ≠ 14 → (zp t3 65 3 4) 65 j = σ 65 j := fun j j1 j2 j3 j4 j5 j6 => by
              rw [zp_o _ _ j1, v3 j j1 j2 j3 j4 j5 j6, S_f 65 (by decide) (by decide) (by decide) (by decide)]
            have F52 : (zp t3 65 3 4) 52 = (zp s1 52 1 0) 52 := by rw [zp_n _ _ _ (by decide), v2 52 (by decide) (by decide) (by decide)]
            refine zok_e (e := 2) (k := 4) (r' := 0) (σ1 := zp s1 52 1 0) (σ2 := zp t3 65 3 4) cl rfl (by decide) ?_ (zp_e _ _ _ _) (RA_txt (n := n) R0 ?_ (fun p hp => F p (by omega) (by omega) (by omega) (by omega) (by omega) (by omega) (by omega)) (F65 2 (by decide) (by decide) (by decide) (by decide) (by decide) (by decide)) (RRp_same a3 (fun p hp => F p (by omega) (by omega) (by omega) (by omega) (by omega) (by omega) (by omega)) (F65 10 (by decide) (by decide) (by decide) (by decide) (by decide) (by decide))) (RTx_0 ?_ ?_ ?_))
            · show f_X9_derive _ _ _ = _
              rw [v1, if_pos full, f_X9_derive_128, zp_e, if_neg (by decide)]
            · rw [F 66 (by decide) (by decide) (by decide) (by decide) (by decide) (by decide) (by decide)]
              exact RS_mono (Nat.le_succ K) (RS_cong (fun p hp => F p (by omega) (by omega) (by omega) (by omega) (by omega) (by omega) (by omega)) hS0)
            · rw [F52, zp_e]
            · rw [zp_o _ _ (by decide)]; exact v4
            · rw [zp_o _ _ (by decide), v5, F52, zp_o _ _ (by decide)]; exact e1.symm
          · have n28 : n < 28 := by omega
            have l7 : zln σ t < 7 := by omega
            obtain ⟨M1, m1, mN, mf, m2, m3, m4, m5, m5n, m6, m7, m8, m9⟩ := p_makeDerived S2 n28 h S4 l7 (nI s)
            obtain ⟨S1, d1, dN, df, d9, dv⟩ := p_derLoop (s0 := M1) (xs := xs) n28 x4 m9 (by rw [mf 52 (by decide), zp_o _ _ (by decide), e2, Nat.zero_add]) (fun i hi => by
              have := e3 i hi
              rw [Nat.zero_add] at this
              rw [mf 54 (by decide), mf 55 (by decide), mf 56 (by decide), zp_n _ _ _ (by decide), zp_n _ _ _ (by decide), zp_n _ _ _ (by decide)]; exact this)
            have cl : f_X8_derive σ (nI s) (nI t) = some (0, nI n, S1) := by
              rw [cl2, if_neg (by omega), if_neg (by omega), f_X8_derive_94, f_X8_needState, if_neg (by decide), zx_0, m1, zb_s, d1]
            have C1 : ∀ p, 12 < p → p ≠ 52 → p ≠ 54 → p ≠ 55 → p ≠ 56 → S1 p = σ p := fun p p0 p1 p2 p3 p4 => by rw [df p (by omega) (by omega) (by omega) (by omega), mf p (by omega)]; exact S_f p p1 p2 p3 p4
            have C0 : ∀ p, p < 2 → S1 p = σ p := fun p p0 => by rw [df p (by omega) (by omega) (by omega) (by omega), mf p (by omega)]; exact S_f p (by omega) (by omega) (by omega) (by omega)
            have CN : ∀ p j, p ≤ 24 → ¬ (p = 2 ∧ j = 0) → ¬ ((p = 3 ∨ p = 4 ∨ p = 6 ∨ p = 7 ∨ p = 8 ∨ p = 9) ∧ j = n) → ¬ (p = 5 ∧ 7 * n ≤ j) → ¬ ((p = 10 ∨ p = 11 ∨ p = 12) ∧ 4 * n ≤ j) → S1 p j = σ p j := fun p j p0 h1 h2 h3 h4 => by
              rw [dN p j h1 h2 h3 h4, mN p j h1 h2 h3 h4, S_f p (by omega) (by omega) (by omega) (by omega)]
            obtain ⟨t3, v1, v2, v3, v4, v5, v6, v7⟩ := md2 (zp S1 75 0 (nI n)) (by rw [zp_n _ _ _ (by decide)]; exact C1 65 (by decide) (by decide) (by decide) (by decide) (by decide)) (by rw [zp_n _ _ _ (by decide)]; exact C1 66 (by decide) (by decide) (by decide) (by decide) (by decide)) (by rw [zp_n _ _ _ (by decide)]; exact C1 68 (by decide) (by decide) (by decide) (by decide) (by decide))
            have t66 : (zp t3 65 3 0) 66 = σ 66 := by rw [zp_n _ _ _ (by decide), v2 66 (by decide) (by decide) (by decide), zp_n _ _ _ (by decide)]; exact C1 66 (by decide) (by decide) (by decide) (by decide) (by decide)
            have mk := m_makes (τ := zp t3 65 3 0) (n := n) (by rw [t66]; exact hm) n28 (nI s) (σ 66 (51 + t)) (nI t)
            generalize hM2 : zp (zp (zp (zp (zp (zp (zp (zp t3 65 3 0) 66 (51 + n) (σ 66 (51 + t))) 66 (79 + n) (nI t)) 66 (107 + n) ((1 : Int32) <<< (nI s &&& 31))) 66 (135 + n) (-1)) 66 (163 + n) 0) 66 (191 + n) 0) 66 1 (nI (n + 1)) = M2 at mk
            have M2f : ∀ p, p ≠ 66 → M2 p = (zp t3 65 3 0) p := fun p hp => by
              rw [← hM2, zp_n _ _ _ hp, zp_n _ _ _ hp, zp_n _ _ _ hp, zp_n _ _ _ hp, zp_n _ _ _ hp, zp_n _ _ _ hp, zp_n _ _ _ hp]
            obtain ⟨S3, r1, rf, rN, r9, rv⟩ := m_derLoop (t0 := M2) (n := n) (xs := xs) n28 x4 (by rw [← hM2, zp_o _ _ (by omega), zp_e]) (by rw [M2f 65 (by decide), zp_o _ _ (by decide)]; exact v6) (fun i hi => by rw [M2f 72 (by decide), zp_n _ _ _ (by decide)]; exact v7 i hi)
            have md : f_X9_derive (zp S1 75 0 (nI n)) (nI s) (nI t) = some (nI n, S3) := by
              rw [v1, if_neg full, f_X9_derive_128, zp_e, if_pos rfl, zk51, nI_add, zg_in _ (by omega) (by decide), zcl (by omega), t66, mk, zb_s, r1]
            have F3 : ∀ p, p ≠ 65 → p ≠ 66 → p ≠ 69 → p ≠ 72 → p ≠ 75 → S3 p = S1 p := fun p p1 p2 p3 p4 p5 => by
              rw [rf p p2, M2f p p2, zp_n _ _ _ p1, v2 p p1 p3 p4, zp_n _ _ _ p5]
            have F65 : ∀ j, j ≠ 3 → j ≠ 5 → j ≠ 6 → j ≠ 11 → j ≠ 12 → j ≠ 14 → S3 65 j = σ 65 j := fun j j1 j2 j3 j4 j5 j6 => by
              rw [rf 65 (by decide), M2f 65 (by decide), zp_o _ _ j1, v3 j j1 j2 j3 j4 j5 j6, zp_n _ _ _ (by decide), C1 65 (by decide) (by decide) (by decide) (by decide) (by decide)]
            have A : ∀ p j, p ≤ 24 → ¬ (p = 2 ∧ j = 0) → ¬ ((p = 3 ∨ p = 4 ∨ p = 6 ∨ p = 7 ∨ p = 8 ∨ p = 9) ∧ j = n) → ¬ (p = 5 ∧ 7 * n ≤ j) → ¬ ((p = 10 ∨ p = 11 ∨ p = 12) ∧ 4 * n ≤ j) → S3 p j = σ p j := fun p j p0 h1 h2 h3 h4 => by
              rw [F3 p (by omega) (by omega) (by omega) (by omega) (by omega)]; exact CN p j p0 h1 h2 h3 h4
            have B : ∀ j, j < 628 → j ≠ 1 → j ≠ 51 + n → j ≠ 79 + n → j ≠ 107 + n → j ≠ 135 + n → j ≠ 163 + n → j ≠ 191 + n → ¬ (219 + 12 * n ≤ j ∧ j < 555) → S3 66 j = σ 66 j := fun j _ j1 j2 j3 j4 j5 j6 j7 j8 => by
              rw [rN j j7 j8, ← hM2, zp_o _ _ j1, zp_o _ _ j7, zp_o _ _ j6, zp_o _ _ j5, zp_o _ _ j4, zp_o _ _ j3, zp_o _ _ j2, t66]
            have P : RTk S3 (S3 66) (K + 1) t := RTk_more (n := n) hn (Nat.le_succ K) h (fun p j hp => A p j (by omega) (by omega) (by omega) (by omega) (by omega)) (fun j hj => B j (by omega) (by omega) (by omega) (by omega) (by omega) (by omega) (by omega) (by omega) (by omega)) T
            have lt : zln S3 t = zln σ t := by
              have e : S3 4 t = σ 4 t := A 4 t (by decide) (by omega) (by omega) (by omega) (by omega)
              rw [zln, e]; rfl
            have G : ∀ p, 2 ≤ p → p ≤ 12 → S3 p = S1 p := fun p p1 p2 => F3 p (by omega) (by omega) (by omega) (by omega) (by omega)
            have D : ∀ p, 2 ≤ p → p ≤ 8 → S1 p = M1 p := fun p p1 p2 => df p (by omega) (by omega) (by omega) (by omega)
            have b2 : ∀ j, j ≠ 191 + n → ¬ (219 + 12 * n ≤ j ∧ j < 555) → S3 66 j = M2 66 j := rN
            refine zok_0 (r := nI n) (σ1 := S1) (σ2 := S3) cl md ?_ ?_ (RA_txt (n := n + 1) R0 (RS_new hS0 n28 (fun p j _ p2 _ h1 h2 h3 h4 => A p j p2 h1 h2 h3 h4) B ?_ ?_ (RTk_der (t := t) (xs := xs) n28 h P (by omega) x4 xok ?_ ?_ ?_ (fun k hk => ?_) ?_ ?_ ?_ ?_ ?_ ?_ ?_ ?_ ?_ ?_ (fun q hq => ?_) rv)) (fun p hp => ?_) (F65 2 (by decide) (by decide) (by decide) (by decide) (by decide) (by decide)) (RRp_same a3 (fun p hp => ?_) (F65 10 (by decide) (by decide) (by decide) (by decide) (by decide) (by decide))) (RTx_0 ?_ ?_ ?_))
            · rw [rf 65 (by decide), M2f 65 (by decide), zp_e]
            · rw [rf 75 (by decide), M2f 75 (by decide), zp_n _ _ _ (by decide), v2 75 (by decide) (by decide) (by decide)]
            · rw [G 2 (by decide) (by decide), D 2 (by decide) (by decide)]; exact m2
            · rw [b2 1 (by omega) (by omega), ← hM2, zp_e]
            · rw [G 3 (by decide) (by decide), D 3 (by decide) (by decide), m3, mN 3 t (by omega) (by omega) (by omega) (by omega)]
            · rw [b2 (51 + n) (by omega) (by omega), B (51 + t) (by omega) (by omega) (by omega) (by omega) (by omega) (by omega) (by omega) (by omega) (by omega), ← hM2]
              simp (disch := omega) only [zp_o, zp_e]
            · rw [G 4 (by decide) (by decide), D 4 (by decide) (by decide), m4, lt]
            · rw [lt] at hk
              rw [G 5 (by decide) (by decide), D 5 (by decide) (by decide), m5 k hk, mN 5 (t * 7 + k) (by omega) (by omega) (by omega) (by omega)]
            · rw [lt, G 5 (by decide) (by decide), D 5 (by decide) (by decide)]; exact m5n
            · rw [b2 (79 + n) (by omega) (by omega), ← hM2]
              simp (disch := omega) only [zp_o, zp_e]
            · rw [G 6 (by decide) (by decide), D 6 (by decide) (by decide), m6]; exact zr_sh hs
            · rw [G 6 (by decide) (by decide), D 6 (by decide) (by decide), m6, b2 (107 + n) (by omega) (by omega), ← hM2]
              simp (disch := omega) only [zp_o, zp_e]
            · rw [G 7 (by decide) (by decide), D 7 (by decide) (by decide)]; exact m7
            · rw [b2 (163 + n) (by omega) (by omega), ← hM2]
              simp (disch := omega) only [zp_o, zp_e]
            · rw [G 8 (by decide) (by decide), D 8 (by decide) (by decide)]; exact m8
            · rw [b2 (135 + n) (by omega) (by omega), ← hM2]
              simp (disch := omega) only [zp_o, zp_e]
            · rw [G 9 (by decide) (by decide)]; exact d9
            · exact r9
            · rw [G 10 (by decide) (by decide), G 11 (by decide) (by decide), G 12 (by decide) (by decide)]; exact dv q hq
            · rw [F3 p (by omega) (by omega) (by omega) (by omega) (by omega)]
              by_cases p0 : p = 0
              · exact C0 p (by omega)
              · exact C1 p (by omega) (by omega) (by omega) (by omega) (by omega)
            · rw [F3 p (by omega) (by omega) (by omega) (by omega) (by omega)]
              exact C1 p (by omega) (by omega) (by omega) (by omega) (by omega)
            · rw [F3 52 (by decide) (by decide) (by decide) (by decide) (by decide), df 52 (by decide) (by decide) (by decide) (by decide), mf 52 (by decide), zp_e]
            · rw [rf 65 (by decide), M2f 65 (by decide), zp_o _ _ (by decide)]; exact v4
            · rw [rf 65 (by decide), M2f 65 (by decide), zp_o _ _ (by decide), v5, F3 52 (by decide) (by decide) (by decide) (by decide) (by decide), df 52 (by decide) (by decide) (by decide) (by decide), mf 52 (by decide), zp_o _ _ (by decide)]
              exact e1.symm
    · refine zokq_e 0 1 R0 ⟨σ, 0, ?_, zQx_refl σ⟩ (fun _ => rfl) (by decide) (fun τ hv => ⟨zp τ 65 3 1, 0, ?_, zp_e _ _ _ _, zMx_3 _ _⟩)
      · rw [f_X8_derive, c_sub_in σ hs, zx_0, c_tok_out hc ho2]; rfl
      · have e := hv 66 (by decide) (by decide)
        rw [f_X9_derive, m_sub_in _ hs, zb_s, if_neg (by decide), m_tok_out (by rw [e]; exact hm) hn ho2, zb_s, if_pos rfl, o21]
  · refine zokq_e 0 1 R0 ⟨σ, 0, ?_, zQx_refl σ⟩ (fun _ => rfl) (by decide) (fun τ hv => ⟨zp τ 65 3 1, 0, ?_, zp_e _ _ _ _, zMx_3 _ _⟩)
    · rw [f_X8_derive, c_sub_out σ ho]; rfl
    · rw [f_X9_derive, m_sub_out _ ho, zb_s, if_pos rfl, o21]
end PD
