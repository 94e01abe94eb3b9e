/-! counting bits -/
theorem nland (a1 a0 m1 m0 : Nat) (h0 : a0 < 65536) (hm : m0 < 65536) : (65536 * a1 + a0) &&& (65536 * m1 + m0) = 65536 * (a1 &&& m1) + (a0 &&& m0) := by
  have e1 : ((65536 * a1 + a0) &&& (65536 * m1 + m0)) / 2 ^ 16 = (65536 * a1 + a0) / 2 ^ 16 &&& (65536 * m1 + m0) / 2 ^ 16 := Nat.and_div_two_pow ..
  have e2 : ((65536 * a1 + a0) &&& (65536 * m1 + m0)) % 2 ^ 16 = (65536 * a1 + a0) % 2 ^ 16 &&& (65536 * m1 + m0) % 2 ^ 16 := Nat.and_mod_two_pow ..
  rw [show (65536 * a1 + a0) / 2 ^ 16 = a1 by omega, show (65536 * m1 + m0) / 2 ^ 16 = m1 by omega] at e1
  rw [show (65536 * a1 + a0) % 2 ^ 16 = a0 by omega, show (65536 * m1 + m0) % 2 ^ 16 = m0 by omega] at e2
  omega
theorem nlow (y m k : Nat) (hm : m < 2 ^ k) : y &&& m = (y % 2 ^ k) &&& m := by
  have h1 : y &&& m ≤ m := Nat.and_le_right
  have e : (y &&& m) % 2 ^ k = y % 2 ^ k &&& m % 2 ^ k := Nat.and_mod_two_pow ..
  rw [Nat.mod_eq_of_lt (Nat.lt_of_le_of_lt h1 hm), Nat.mod_eq_of_lt hm] at e
  exact e
def zq1 (L : Nat) : Nat := L - (L / 2 &&& 21845)
def zq2 (L : Nat) : Nat := (zq1 L &&& 13107) + (zq1 L / 4 &&& 13107)
def zq3 (L : Nat) : Nat := (zq2 L + zq2 L / 16) &&& 3855
def zpop : Nat → Nat → Nat
  | 0, _ => 0
  | k + 1, X => zpop k X + X / 2 ^ k % 2
theorem zpop_hi (j : Nat) : ∀ k X, zpop (j + k) X = zpop j X + zpop k (X / 2 ^ j)
  | 0, X => rfl
  | k + 1, X => by
    show zpop (j + k) X + X / 2 ^ (j + k) % 2 = zpop j X + (zpop k (X / 2 ^ j) + X / 2 ^ j / 2 ^ k % 2)
    rw [zpop_hi j k X, Nat.pow_add, Nat.div_div_eq_div_mul, Nat.add_assoc]
theorem zpop_lo (m : Nat) : ∀ k, k ≤ m → ∀ X, zpop k X = zpop k (X % 2 ^ m)
  | 0, _, _ => rfl
  | k + 1, hk, X => by
    show zpop k X + X / 2 ^ k % 2 = zpop k (X % 2 ^ m) + X % 2 ^ m / 2 ^ k % 2
    rw [zpop_lo m k (by omega) X]
    congr 1
    have h := congrArg Bool.toNat (Nat.testBit_mod_two_pow X m k)
    rw [decide_eq_true (by omega), Bool.true_and, Nat.testBit_eq_decide_div_mod_eq, Nat.testBit_eq_decide_div_mod_eq] at h
    by_cases a : X % 2 ^ m / 2 ^ k % 2 = 1
    · by_cases b : X / 2 ^ k % 2 = 1
      · omega
      · rw [decide_eq_true a, decide_eq_false b] at h; cases h
    · by_cases b : X / 2 ^ k % 2 = 1
      · rw [decide_eq_false a, decide_eq_true b] at h; cases h
      · omega
def zb1 (l : Nat) : Nat := l - (l / 2 &&& 85)
def zb2 (l : Nat) : Nat := (zb1 l &&& 51) + (zb1 l / 4 &&& 51)
def zb3 (l : Nat) : Nat := (zb2 l + zb2 l / 16) &&& 15
theorem zb_ok : ∀ l, l < 256 → zb2 l ≤ 68 ∧ zb2 l % 16 ≤ 4 ∧ zb3 l ≤ 8 ∧ zb3 l = zpop 8 l ∧ zb1 l < 256 := by decide +kernel
theorem nland8 (a1 a0 m1 m0 : Nat) (h0 : a0 < 256) (hm : m0 < 256) : (256 * a1 + a0) &&& (256 * m1 + m0) = 256 * (a1 &&& m1) + (a0 &&& m0) := by
  have e1 : ((256 * a1 + a0) &&& (256 * m1 + m0)) / 2 ^ 8 = (256 * a1 + a0) / 2 ^ 8 &&& (256 * m1 + m0) / 2 ^ 8 := Nat.and_div_two_pow ..
  have e2 : ((256 * a1 + a0) &&& (256 * m1 + m0)) % 2 ^ 8 = (256 * a1 + a0) % 2 ^ 8 &&& (256 * m1 + m0) % 2 ^ 8 := Nat.and_mod_two_pow ..
  rw [show (256 * a1 + a0) / 2 ^ 8 = a1 by omega, show (256 * m1 + m0) / 2 ^ 8 = m1 by omega] at e1
  rw [show (256 * a1 + a0) % 2 ^ 8 = a0 by omega, show (256 * m1 + m0) % 2 ^ 8 = m0 by omega] at e2
  omega
theorem zq_ok {L : Nat} (hL : L < 65536) : zq2 L ≤ 17476 ∧ zq2 L % 16 ≤ 4 ∧ zq3 L / 256 ≤ 8 ∧ zq3 L % 256 ≤ 8 ∧ zq3 L / 256 + zq3 L % 256 = zpop 16 L := by
  obtain ⟨h, l, hh, hl, rfl⟩ : ∃ h l, h < 256 ∧ l < 256 ∧ L = 256 * h + l := ⟨L / 256, L % 256, by omega, by omega, by omega⟩
  obtain ⟨a1, a2, a3, a4, a5⟩ := zb_ok h hh
  obtain ⟨b1, b2, b3, b4, b5⟩ := zb_ok l hl
  have lh : h / 2 &&& 85 ≤ h / 2 := Nat.and_le_left
  have ll : l / 2 &&& 85 ≤ l / 2 := Nat.and_le_left
  have g1 : zq1 (256 * h + l) = 256 * zb1 h + zb1 l := by
    unfold zq1 zb1
    rw [show (256 * h + l) / 2 = 256 * (h / 2) + (128 * (h % 2) + l / 2) by omega, show 21845 = 256 * 85 + 85 by decide, nland8 _ _ _ _ (by omega) (by decide),
      nlow (128 * (h % 2) + l / 2) 85 7 (by decide), show (128 * (h % 2) + l / 2) % 2 ^ 7 = l / 2 by omega]
    omega
  have g2 : zq2 (256 * h + l) = 256 * zb2 h + zb2 l := by
    unfold zq2 zb2
    rw [g1, show (256 * zb1 h + zb1 l) / 4 = 256 * (zb1 h / 4) + (64 * (zb1 h % 4) + zb1 l / 4) by omega, show 13107 = 256 * 51 + 51 by decide, nland8 _ _ _ _ b5 (by decide), nland8 _ _ _ _ (by omega) (by decide),
      nlow (64 * (zb1 h % 4) + zb1 l / 4) 51 6 (by decide), show (64 * (zb1 h % 4) + zb1 l / 4) % 2 ^ 6 = zb1 l / 4 by omega]
    omega
  have g3 : zq3 (256 * h + l) = 256 * zb3 h + zb3 l := by
    unfold zq3 zb3
    rw [g2, show 256 * zb2 h + zb2 l + (256 * zb2 h + zb2 l) / 16 = 256 * (zb2 h + zb2 h / 16) + (zb2 l + zb2 l / 16 + 16 * (zb2 h % 16)) by omega, show 3855 = 256 * 15 + 15 by decide, nland8 _ _ _ _ (by omega) (by decide),
      nlow (zb2 l + zb2 l / 16 + 16 * (zb2 h % 16)) 15 4 (by decide), show (zb2 l + zb2 l / 16 + 16 * (zb2 h % 16)) % 2 ^ 4 = (zb2 l + zb2 l / 16) % 2 ^ 4 by omega, ← nlow _ 15 4 (by decide)]
  rw [g2, g3]
  refine ⟨by omega, by omega, by omega, by omega, ?_⟩
  rw [show 16 = 8 + 8 from rfl, zpop_hi, zpop_lo 8 8 (Nat.le_refl 8) (256 * h + l), show (256 * h + l) % 2 ^ 8 = l by omega, show (256 * h + l) / 2 ^ 8 = h by omega]
  omega
theorem zq_end (a b c d A B : Nat) (ha : a ≤ 8) (hb : b ≤ 8) (hc : c ≤ 8) (hd : d ≤ 8) (eA : A = 256 * a + b) (eB : B = 256 * c + d) :
    65536 * A + B + (65536 * A + B) / 256 < 4294967296 ∧ 65536 * A + B + (65536 * A + B) / 256 + (65536 * A + B + (65536 * A + B) / 256) / 65536 < 4294967296 ∧ (65536 * A + B + (65536 * A + B) / 256 + (65536 * A + B + (65536 * A + B) / 256) / 65536) % 64 = a + b + (c + d) := by
  have e1 : (65536 * A + B) / 256 = 256 * A + c := by omega
  rw [e1]
  have e2 : (65536 * A + B + (256 * A + c)) / 65536 = A + a := by omega
  rw [e2]
  omega
theorem zq_word {H L : Nat} (hH : H < 65536) (hL : L < 65536) (X n1 n2 n3 n4 n5 : Nat) (eX : X = 65536 * H + L)
    (e1 : n1 = X - (X / 2 &&& 1431655765)) (e2 : n2 = (n1 &&& 858993459) + (n1 / 4 &&& 858993459)) (e3 : n3 = (n2 + n2 / 16) &&& 252645135) (e4 : n4 = n3 + n3 / 256) (e5 : n5 = n4 + n4 / 65536) :
    (X / 2 &&& 1431655765) ≤ X ∧ n2 < 4294967296 ∧ n2 + n2 / 16 < 4294967296 ∧ n4 < 4294967296 ∧ n5 < 4294967296 ∧ n5 % 64 = zpop 16 H + zpop 16 L := by
  obtain ⟨a1, a2, a3, a4, a5⟩ := zq_ok hH
  obtain ⟨b1, b2, b3, b4, b5⟩ := zq_ok hL
  have lH : H / 2 &&& 21845 ≤ H / 2 := Nat.and_le_left
  have lL : L / 2 &&& 21845 ≤ L / 2 := Nat.and_le_left
  have f1 : X / 2 &&& 1431655765 = 65536 * (H / 2 &&& 21845) + (L / 2 &&& 21845) := by
    rw [eX, show (65536 * H + L) / 2 = 65536 * (H / 2) + (32768 * (H % 2) + L / 2) by omega, show 1431655765 = 65536 * 21845 + 21845 by decide, nland _ _ _ _ (by omega) (by decide)]
    congr 1
    rw [nlow _ 21845 15 (by decide), show (32768 * (H % 2) + L / 2) % 2 ^ 15 = L / 2 by omega]
  have g1 : n1 = 65536 * zq1 H + zq1 L := by rw [e1, f1, eX, zq1, zq1]; omega
  have q1H : zq1 H < 65536 := by unfold zq1; omega
  have q1L : zq1 L < 65536 := by unfold zq1; omega
  have g2 : n2 = 65536 * zq2 H + zq2 L := by
    rw [e2, g1, show (65536 * zq1 H + zq1 L) / 4 = 65536 * (zq1 H / 4) + (16384 * (zq1 H % 4) + zq1 L / 4) by omega, show 858993459 = 65536 * 13107 + 13107 by decide, nland _ _ _ _ q1L (by decide), nland _ _ _ _ (by omega) (by decide)]
    rw [nlow (16384 * (zq1 H % 4) + zq1 L / 4) 13107 14 (by decide), show (16384 * (zq1 H % 4) + zq1 L / 4) % 2 ^ 14 = zq1 L / 4 by omega, zq2, zq2]
    omega
  have g3 : n3 = 65536 * zq3 H + zq3 L := by
    rw [e3, g2, show 65536 * zq2 H + zq2 L + (65536 * zq2 H + zq2 L) / 16 = 65536 * (zq2 H + zq2 H / 16) + (zq2 L + zq2 L / 16 + 4096 * (zq2 H % 16)) by omega, show 252645135 = 65536 * 3855 + 3855 by decide, nland _ _ _ _ (by omega) (by decide)]
    rw [nlow (zq2 L + zq2 L / 16 + 4096 * (zq2 H % 16)) 3855 12 (by decide), show (zq2 L + zq2 L / 16 + 4096 * (zq2 H % 16)) % 2 ^ 12 = (zq2 L + zq2 L / 16) % 2 ^ 12 by omega, ← nlow _ 3855 12 (by decide)]
    rfl
  obtain ⟨h1, h2, h3⟩ := zq_end (zq3 H / 256) (zq3 H % 256) (zq3 L / 256) (zq3 L % 256) (zq3 H) (zq3 L) a3 a4 b3 b4 (by omega) (by omega)
  rw [← g3, ← e4] at h1 h2 h3
  rw [← e5] at h2 h3
  refine ⟨by rw [f1, eX]; omega, by rw [g2]; omega, by rw [g2]; omega, by omega, h2, ?_⟩
  rw [h3, a5, b5]
theorem nI_and {a b : Nat} : nI a &&& nI b = nI (a &&& b) := by
  apply zbit_ext
  intro k hk
  rw [zbit_and, zbit_nI, zbit_nI, zbit_nI, Nat.testBit_and, decide_eq_true hk]; simp
theorem nI_self (x : Int32) : nI x.toBitVec.toNat = x := by
  rw [← Int32.toBitVec_inj]
  show BitVec.ofNat 32 x.toBitVec.toNat = _
  simp
theorem zus1 {n : Nat} (h : n < 4294967296) : ((nI n).toUInt32 >>> ((1 : Int32).toUInt32 &&& Int32.toUInt32 31)).toInt32 = nI (n / 2) := pk_ushrN h 1 1 (by decide)
theorem zus2 {n : Nat} (h : n < 4294967296) : ((nI n).toUInt32 >>> ((2 : Int32).toUInt32 &&& Int32.toUInt32 31)).toInt32 = nI (n / 4) := pk_ushrN h 2 2 (by decide)
theorem zus4 {n : Nat} (h : n < 4294967296) : ((nI n).toUInt32 >>> ((4 : Int32).toUInt32 &&& Int32.toUInt32 31)).toInt32 = nI (n / 16) := pk_ushrN h 4 4 (by decide)
theorem zus8 {n : Nat} (h : n < 4294967296) : ((nI n).toUInt32 >>> ((8 : Int32).toUInt32 &&& Int32.toUInt32 31)).toInt32 = nI (n / 256) := pk_ushrN h 8 8 (by decide)
theorem zus16 {n : Nat} (h : n < 4294967296) : ((nI n).toUInt32 >>> ((16 : Int32).toUInt32 &&& Int32.toUInt32 31)).toInt32 = nI (n / 65536) := pk_ushrN h 16 16 (by decide)
theorem p_bitCount (σ : zs) (x : Int32) : f_J6_bitCount_0f7a4 σ x = some (nI (zpop 32 x.toBitVec.toNat), σ) := by
  have hX : x.toBitVec.toNat < 4294967296 := x.toBitVec.isLt
  have ex := nI_self x
  generalize x.toBitVec.toNat = X at hX ex
  subst ex
  obtain ⟨w1, w2, w3, w4, w5, w6⟩ := zq_word (H := X / 65536) (L := X % 65536) (by omega) (by omega) X _ _ _ _ _ (by omega) rfl rfl rfl rfl rfl
  have s1 : X - (X / 2 &&& 1431655765) < 4294967296 := by omega
  have s3 : ∀ y, y &&& 252645135 < 4294967296 := fun y => Nat.lt_of_le_of_lt Nat.and_le_right (by decide)
  simp only [f_J6_bitCount_0f7a4, zl]
  rw [zus1 hX, show (1431655765 : Int32) = nI 1431655765 from rfl, nI_and, nI_sub w1, zus2 s1, show (858993459 : Int32) = nI 858993459 from rfl, nI_and, nI_and, nI_add, zus4 w2, show (252645135 : Int32) = nI 252645135 from rfl, nI_add, nI_and, zus8 (s3 _), nI_add, zus16 w4, nI_add,
    pk_andN w5 6 (m := (63 : Int32)) (by decide)]
  rw [show (2 : Nat) ^ 6 = 64 from rfl, w6, show 32 = 16 + 16 from rfl, zpop_hi, zpop_lo 16 16 (Nat.le_refl 16) X, Nat.add_comm]
/-- the count of the bits of a set -/
theorem zpop_cnt (x : Int32) : ∀ k, k ≤ 32 → zpop k x.toBitVec.toNat = zcnt (zbit x) k
  | 0, _ => rfl
  | k + 1, hk => by
    show zpop k _ + _ = _
    rw [zpop_cnt x k (by omega), zcnt]
    have e : zbit x k = decide (x.toBitVec.toNat / 2 ^ k % 2 = 1) := by
      unfold zbit
      rw [← BitVec.testBit_toNat, Nat.testBit_eq_decide_div_mod_eq]
    rw [e]
    by_cases q : x.toBitVec.toNat / 2 ^ k % 2 = 1
    · rw [decide_eq_true q, if_pos rfl, q]
    · rw [decide_eq_false q, if_neg (by decide)]; omega
theorem zcnt_lt (p : Nat → Bool) (n : Nat) : ∀ N, n ≤ N → zcnt (fun k => decide (k < n) && p k) N = zcnt p n := by
  intro N
  induction N with
  | zero => intro h; have : n = 0 := by omega
            subst this; rfl
  | succ N ih =>
    intro h
    by_cases e : n = N + 1
    · subst e
      exact zcnt_cong (fun i hi => by rw [decide_eq_true hi]; rfl)
    · rw [zcnt, ih (by omega), decide_eq_false (by omega)]; rfl
theorem p_bitSet (σ : zs) {x : Int32} {p : Nat → Bool} {n : Nat} (hn : n ≤ 32) (h : ∀ k, k < 32 → zbit x k = (decide (k < n) && p k)) : f_J6_bitCount_0f7a4 σ x = some (nI (zcnt p n), σ) := by
  rw [p_bitCount, zpop_cnt x 32 (by omega), zcnt_cong (fun i hi => h i hi), zcnt_lt p n 32 hn]
/-! the reference's count -/
def zkb (h : Nat) : Nat → Nat
  | 0 => h
  | i + 1 => zkb h i &&& (zkb h i - 1)
theorem m_bits_f : ∀ h, h < 64 → zkb h (zpop 32 h) = 0 ∧ zpop 32 h < 7 ∧ ∀ i, i < 7 → i < zpop 32 h → (nI (zkb h i) ≠ 0 ∧ nI (zkb h i) &&& (nI (zkb h i) - 1) = nI (zkb h (i + 1))) := by decide +kernel
theorem m_bits (σ : zs) {h : Nat} (hh : h < 64) : f_X9_bits σ (nI h) = some (nI (zpop 32 h), σ) := by
  obtain ⟨e1, e2, e3⟩ := m_bits_f h hh
  rw [f_X9_bits, zi0]
  refine zlr2 (zpop 32 h) (fun _ => σ) nI (fun i => nI (zkb h i)) (fun i hi rec => ?_) (fun rec => ?_) 1000 (by omega)
  · obtain ⟨a, b⟩ := e3 i (by omega) hi
    rw [f_X9_bits_4, if_neg a, b, nI_1]
  · rw [f_X9_bits_4, e1, if_pos (show nI 0 = 0 from rfl)]
theorem p_bits (σ : zs) {h : Nat} (hh : h < 64) : f_J6_bitCount_0f7a4 σ (nI h) = some (nI (zpop 32 h), σ) := by
  rw [p_bitCount, pk_tn (by omega)]
