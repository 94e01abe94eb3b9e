/-! describe: the letters one by one -/
abbrev zSt : Type := Nat × (Nat → Int32)
def zwc (x : Int32) (st : zSt) : zSt := (st.1 + 1, upd st.2 st.1 x)
def zwn (v : Nat) (st : zSt) : zSt := (st.1 + sLen v, sDig v st.1 st.2)
def zleN (k : Nat) : Nat := if k = 0 then 114 else if k = 1 then 116 else if k = 2 then 115 else if k = 3 then 110 else 97
theorem zleN_lt (k : Nat) : zleN k < 128 := by
  unfold zleN
  split
  · decide
  · split
    · decide
    · split
      · decide
      · split <;> decide
theorem zsLen_le (v : Nat) : sLen v ≤ 3 := by
  unfold sLen
  split
  · decide
  · split <;> decide
def zsp1 (c : zs) (t q : Nat) (st : zSt) : zSt := zwn (zN (c 11 (t * 4 + q))) (zwc (nI (zleN (zN (c 10 (t * 4 + q))))) st)
def zsp2 (c : zs) (t q : Nat) (st : zSt) : zSt := if zN (c 10 (t * 4 + q)) = 4 then zwn (zN (c 12 (t * 4 + q))) (zwc (nI 45) (zsp1 c t q st)) else zsp1 c t q st
def zsp (c : zs) (t : Nat) (st : zSt) (q : Nat) : zSt := zsp2 c t q (if q = 0 then st else zwc (nI 59) st)
def zspell (c : zs) (t : Nat) (f : Nat → Int32) (N : Nat) : zSt := zfold (zsp c t) (0, f) N
theorem zsp1_le (c : zs) (t q : Nat) (st : zSt) : (zsp1 c t q st).1 ≤ st.1 + 4 := by
  have := zsLen_le (zN (c 11 (t * 4 + q)))
  show st.1 + 1 + sLen _ ≤ _
  omega
theorem zsp2_le (c : zs) (t q : Nat) (st : zSt) : (zsp2 c t q st).1 ≤ st.1 + 8 := by
  have h1 := zsp1_le c t q st
  unfold zsp2
  split
  · have := zsLen_le (zN (c 12 (t * 4 + q)))
    show (zsp1 c t q st).1 + 1 + sLen _ ≤ _
    omega
  · omega
theorem zspell_s (c : zs) (t : Nat) (f : Nat → Int32) (N : Nat) : zspell c t f (N + 1) = zsp2 c t N (if N = 0 then zspell c t f N else zwc (nI 59) (zspell c t f N)) := rfl
theorem zspell_le (c : zs) (t : Nat) (f : Nat → Int32) : ∀ N, (zspell c t f N).1 ≤ 9 * N
  | 0 => Nat.le_refl 0
  | N + 1 => by
    have ih := zspell_le c t f N
    rw [zspell_s]
    have h := zsp2_le c t N (if N = 0 then zspell c t f N else zwc (nI 59) (zspell c t f N))
    by_cases e : N = 0
    · rw [if_pos e] at h ⊢; omega
    · rw [if_neg e] at h ⊢
      have : (zwc (nI 59) (zspell c t f N)).1 = (zspell c t f N).1 + 1 := rfl
      omega
/-- letters alone -/
def zlok (st : zSt) : Prop := ∀ i, i < st.1 → ∃ v, v < 128 ∧ st.2 i = nI v
theorem zlok_c {st : zSt} (h : zlok st) {v : Nat} (hv : v < 128) : zlok (zwc (nI v) st) := by
  intro i hi
  show ∃ v', v' < 128 ∧ upd st.2 st.1 (nI v) i = nI v'
  have hi' : i < st.1 + 1 := hi
  by_cases e : i = st.1
  · rw [e, upd_s]; exact ⟨v, hv, rfl⟩
  · rw [upd_n _ _ e]; exact h i (by omega)
theorem zlok_n {st : zSt} (h : zlok st) {v : Nat} (hv : v < 1000) : zlok (zwn v st) := by
  intro i hi
  show ∃ v', v' < 128 ∧ sDig v st.1 st.2 i = nI v'
  have hi' : i < st.1 + sLen v := hi
  unfold sDig
  unfold sLen at hi'
  by_cases h1 : v < 10
  · rw [if_pos h1] at hi' ⊢
    by_cases e : i = st.1
    · rw [e, upd_s]; exact ⟨_, by omega, rfl⟩
    · rw [upd_n _ _ e]; exact h i (by omega)
  · rw [if_neg h1] at hi' ⊢
    by_cases h2 : v < 100
    · rw [if_pos h2] at hi' ⊢
      by_cases e : i = st.1
      · rw [e, upd_s]; exact ⟨_, by omega, rfl⟩
      · rw [upd_n _ _ e]
        by_cases e2 : i = st.1 + 1
        · rw [e2, upd_s]; exact ⟨_, by omega, rfl⟩
        · rw [upd_n _ _ e2]; exact h i (by omega)
    · rw [if_neg h2] at hi' ⊢
      by_cases e : i = st.1
      · rw [e, upd_s]; exact ⟨_, by omega, rfl⟩
      · rw [upd_n _ _ e]
        by_cases e2 : i = st.1 + 1
        · rw [e2, upd_s]; exact ⟨_, by omega, rfl⟩
        · rw [upd_n _ _ e2]
          by_cases e3 : i = st.1 + 2
          · rw [e3, upd_s]; exact ⟨_, by omega, rfl⟩
          · rw [upd_n _ _ e3]; exact h i (by omega)
theorem zspell_ok {c : zs} {m : Nat → Int32} {K t : Nat} (T : RTk c m K t) (f : Nat → Int32) : ∀ N, N ≤ zcv c t → zlok (zspell c t f N)
  | 0, _ => fun i hi => absurd hi (Nat.not_lt_zero i)
  | N + 1, hN => by
    have ih := zspell_ok T f N (by omega)
    obtain ⟨-, r10, r11, -, -, r12⟩ := RTk_cv T (show N < zcv c t by omega)
    obtain ⟨e10, l10, -⟩ := zr_N r10
    obtain ⟨e11, l11, -⟩ := zr_N r11
    have h0 : zlok (if N = 0 then zspell c t f N else zwc (nI 59) (zspell c t f N)) := by
      by_cases e : N = 0
      · rw [if_pos e]; exact ih
      · rw [if_neg e]; exact zlok_c ih (by decide)
    rw [zspell_s]
    generalize (if N = 0 then zspell c t f N else zwc (nI 59) (zspell c t f N)) = st at h0
    have h1 : zlok (zsp1 c t N st) := zlok_n (zlok_c h0 (zleN_lt _)) l11
    unfold zsp2
    by_cases e : zN (c 10 (t * 4 + N)) = 4
    · rw [if_pos e]
      exact zlok_n (zlok_c h1 (by decide)) (zr_N (r12 (by rw [e10, e]; rfl))).2.1
    · rw [if_neg e]; exact h1
/-! the class -/
def zCs (s : zs) (st : zSt) : Prop := s 63 1 = 0 ∧ s 63 3 = nI st.1 ∧ s 64 = st.2
def zFs (s s' : zs) : Prop := ∀ p, p ≠ 63 → p ≠ 64 → s' p = s p
theorem zFs_t {a b d : zs} (h : zFs a b) (k : zFs b d) : zFs a d := fun p p1 p2 => (k p p1 p2).trans (h p p1 p2)
theorem p_ch {s : zs} {st : zSt} (C : zCs s st) (h : st.1 < 40) {v : Nat} (hv : v < 128) : ∃ s' : zs, f_J4_append_cf468 s (nI v) = some (0, s') ∧ zFs s s' ∧ zCs s' (zwc (nI v) st) := by
  obtain ⟨c1, c3, c4⟩ := C
  have g : (decide ((0 : Int32) ≤ nI v) && decide (v < 128) && decide ((0 : Int32) ≤ nI st.1) && decide (st.1 < 40) && decide ((0 : Int32) = 0)) = true := by
    rw [decide_eq_true (nI_pos' (show v < 2 ^ 31 by omega)), decide_eq_true hv, decide_eq_true (nI_pos' (show st.1 < 2 ^ 31 by omega)), decide_eq_true h]; rfl
  rw [f_J4_append_cf468, c1, c3, zcl (show v < 2147483648 by omega), zcl (show st.1 < 2147483648 by omega), g, zg_t]
  refine ⟨_, rfl, fun p p1 p2 => by rw [zp_n _ _ _ p1, zp_n _ _ _ p2], ?_, zp_e _ _ _ _, ?_⟩
  · rw [zp_o _ _ (by decide), zp_n _ _ _ (by decide)]; exact c1
  · rw [zp_n _ _ _ (by decide), zp_k, c4]; rfl
theorem p_num {s : zs} {st : zSt} (C : zCs s st) (h : st.1 + 3 ≤ 40) {v : Nat} (hv : v < 1000) : ∃ s' : zs, f_J4_append_bf812 s (nI v) = some (0, s') ∧ zFs s s' ∧ zCs s' (zwn v st) := by
  obtain ⟨c1, c3, c4⟩ := C
  have g : (decide ((0 : Int32) ≤ nI v) && decide (v < 1000) && decide ((0 : Int32) ≤ nI st.1) && decide (st.1 + 3 ≤ 40) && decide ((0 : Int32) = 0)) = true := by
    rw [decide_eq_true (nI_pos' (show v < 2 ^ 31 by omega)), decide_eq_true hv, decide_eq_true (nI_pos' (show st.1 < 2 ^ 31 by omega)), decide_eq_true h]; rfl
  rw [f_J4_append_bf812, c1, c3, zcl (show v < 2147483648 by omega), zcl (show st.1 < 2147483648 by omega), g, zg_t]
  refine ⟨_, rfl, fun p p1 p2 => by rw [zp_n _ _ _ p1, zR_ne _ _ p2], ?_, zp_e _ _ _ _, ?_⟩
  · rw [zp_o _ _ (by decide), zR_ne _ _ (by decide)]; exact c1
  · rw [zp_n _ _ _ (by decide), zR_self, c4]; rfl
theorem p_letter_f : ∀ k, k < 5 → (decide ((0 : Int32) ≤ nI k) && decide (nI k < (5 : Int32))) = true ∧ zin (nI k) 5 = true ∧ (((zLet.getD (nI k).toNatClampNeg 0) &&& (255 : Int32)).toUInt32 % 65536).toInt32 = nI (zleN k) ∧ ((nI (zleN k)).toUInt32 % 65536).toInt32 = nI (zleN k) := by decide +kernel
theorem p_letter (σ : zs) {k : Nat} (hk : k < 5) : f_J0_charAt_5068e σ (nI k) = some (nI (zleN k), σ) := by
  obtain ⟨h1, h2, h3, h4⟩ := p_letter_f k hk
  have h5 : (nI (zleN k) == nI (zleN k)) = true := beq_self_eq_true _
  rw [f_J0_charAt_5068e, f_J1_charAt_3b067_G25, f_J0_checkIndex_df160, f_J3_checkIndex_8e157, h1, zg_t, zb_s, zb_s, h2, zg_t, h3, h4, h5, zg_t, zb_s, h4, h5, zg_t]
section PS
variable {σ s : zs} {m : Nat → Int32} {K t q : Nat} {st : zSt}
theorem p_sp46 (T : RTk σ m K t) (ht : t < 28) (hq : q < zcv σ t) (hf : zFs σ s) (C : zCs s st) (hst : st.1 ≤ 9 * q + 1) (rec : zs → Int32 → Int32 → Option (Int32 × zs)) : ∃ s' : zs, f_X8_spell_46 rec s (nI t) (nI q) (nI (t * 4 + q)) = rec s' (nI t) (nI (q + 1)) ∧ zFs σ s' ∧ zCs s' (zsp2 σ t q st) := by
  have hq4 := (zcv_eq T).2
  obtain ⟨-, r10, r11, -, -, r12⟩ := RTk_cv T hq
  obtain ⟨e10, l10, -⟩ := zr_N r10
  obtain ⟨e11, l11, -⟩ := zr_N r11
  have hw : t * 4 + q < 112 := by omega
  have k1 := zsp1_le σ t q st
  obtain ⟨s1, a1, a2, a3⟩ := p_ch C (by omega) (zleN_lt (zN (σ 10 (t * 4 + q))))
  obtain ⟨s2, b1, b2, b3⟩ := p_num a3 (show st.1 + 1 + 3 ≤ 40 by omega) l11
  have f1 := zFs_t hf a2
  have f2 := zFs_t f1 b2
  have e4 : (nI (zN (σ 10 (t * 4 + q))) = (4 : Int32)) = (zN (σ 10 (t * 4 + q)) = 4) := znI_inj (b := 4) (by omega) (by decide)
  have b3' : zCs s2 (zsp1 σ t q st) := b3
  rw [f_X8_spell_46, zg_in _ hw (by decide), zcl (by omega), hf 10 (by decide) (by decide), e10, p_letter s l10, zb_s, a1, zb_s, zg_in _ hw (by decide), f1 11 (by decide) (by decide), e11, b1, zb_s, zg_in _ hw (by decide), f2 10 (by decide) (by decide), e10, nI_1]
  unfold zsp2
  by_cases h4 : zN (σ 10 (t * 4 + q)) = 4
  · obtain ⟨e12, l12, -⟩ := zr_N (r12 (by rw [e10, h4]; rfl))
    obtain ⟨s3, d1, d2, d3⟩ := p_ch (v := 45) b3' (by omega) (by decide)
    obtain ⟨s4, g1, g2, g3⟩ := p_num d3 (show (zsp1 σ t q st).1 + 1 + 3 ≤ 40 by omega) l12
    have f3 := zFs_t f2 d2
    rw [if_pos ((iff_of_eq e4).mpr h4), if_pos h4, show (45 : Int32) = nI 45 from rfl, d1, zb_s, zg_in _ hw (by decide), f3 12 (by decide) (by decide), e12, g1, zb_s]
    refine ⟨s4, rfl, zFs_t f3 g2, ?_⟩
    rw [zN_nI (by omega)]; exact g3
  · rw [if_neg (fun z => h4 ((iff_of_eq e4).mp z)), if_neg h4]
    exact ⟨s2, rfl, f2, b3'⟩
def zQsp (σ : zs) (t : Nat) (x : Option (Int32 × zs)) : Prop := ∃ s : zs, x = some (0, s) ∧ zFs σ s ∧ zCs s (zspell σ t (σ 64) (zcv σ t))
theorem p_spell (T : RTk σ m K t) (ht : t < 28) (h1 : σ 63 1 = 0) (h3 : zr (σ 63 3) 41) : zQsp σ t (f_X8_spell σ (nI t)) := by
  obtain ⟨e9, hq4⟩ := zcv_eq T
  obtain ⟨v, v1, v2, v3⟩ := h3
  have g : (decide ((0 : Int32) = 0) && decide ((0 : Int32) ≤ nI v) && decide ((0 : Int32) = 0)) = true := by
    rw [decide_eq_true (nI_pos' (show v < 2 ^ 31 by omega))]; rfl
  have st0 : ∃ s0 : zs, f_J4_setLength_d00df σ 0 = some (0, s0) ∧ zFs σ s0 ∧ zCs s0 (0, σ 64) := by
    rw [f_J4_setLength_d00df, h1, v3, g, zg_t]
    refine ⟨_, rfl, ?_⟩
    by_cases e : nI v ≤ 0
    · rw [if_pos e]
      exact ⟨fun p p1 _ => zp_n _ _ _ p1, by rw [zp_o _ _ (by decide)]; exact h1, zp_e _ _ _ _, zp_n _ _ _ (by decide)⟩
    · rw [if_neg e]
      exact ⟨fun p p1 _ => by rw [zp_n _ _ _ p1, zp_n _ _ _ p1], by rw [zp_o _ _ (by decide), zp_o _ _ (by decide)]; exact h1, zp_e _ _ _ _, by rw [zp_n _ _ _ (by decide), zp_n _ _ _ (by decide)]⟩
  obtain ⟨s0, a1, a2, a3⟩ := st0
  rw [f_X8_spell, a1, zb_s, zi0]
  refine zli2 (Q := zQsp σ t) (zcv σ t) (fun j s a b => a = nI t ∧ b = nI j ∧ zFs σ s ∧ zCs s (zspell σ t (σ 64) j)) ?_ ?_ 5 (by omega) ⟨rfl, rfl, a2, a3⟩
  · rintro j hj s a b ⟨rfl, rfl, hf, C⟩ rec kk
    have hle := zspell_le σ t (σ 64) j
    have em : nI t * (4 : Int32) + nI j = nI (t * 4 + j) := by rw [zk4, nI_mul, nI_add]
    rw [f_X8_spell_10, zg_in _ ht (by decide), zcl (by omega), hf 9 (by decide) (by decide), e9, if_neg (by rw [znI_le (by omega) (by omega)]; omega), em]
    by_cases h0 : j = 0
    · rw [if_pos (by rw [h0]; decide)]
      obtain ⟨s', b1, b2, b3⟩ := p_sp46 T ht hj hf C (by omega) rec
      rw [b1]
      refine kk _ _ _ ⟨rfl, rfl, b2, ?_⟩
      rw [zspell_s, if_pos h0]; exact b3
    · obtain ⟨s1, d1, d2, d3⟩ := p_ch (v := 59) C (by omega) (by decide)
      obtain ⟨s', b1, b2, b3⟩ := p_sp46 T ht hj (zFs_t hf d2) d3 (show (zspell σ t (σ 64) j).1 + 1 ≤ 9 * j + 1 by omega) rec
      rw [if_neg (by rw [zi0, znI_le (by omega) (by omega)]; omega), show (59 : Int32) = nI 59 from rfl, d1, zb_s, b1]
      refine kk _ _ _ ⟨rfl, rfl, b2, ?_⟩
      rw [zspell_s, if_neg h0]; exact b3
  · rintro s a b ⟨rfl, rfl, hf, C⟩ rec
    rw [f_X8_spell_10, zg_in _ ht (by decide), zcl (by omega), hf 9 (by decide) (by decide), e9, if_pos (Int32.le_refl _)]
    exact ⟨s, rfl, hf, C⟩
end PS
/-! the reference -/
def zMs (τ : zs) (a : Int32) (st : zSt) : Prop := τ 65 15 = nI st.1 ∧ τ 65 16 = a ∧ ∀ i, i < st.1 → a = nI i → τ 65 17 = st.2 i
def zFw (τ τ' : zs) : Prop := (∀ p, p ≠ 65 → τ' p = τ p) ∧ ∀ j, j ≠ 15 → j ≠ 17 → τ' 65 j = τ 65 j
theorem zFw_r (τ : zs) : zFw τ τ := ⟨fun _ _ => rfl, fun _ _ _ => rfl⟩
theorem zFw_t {a b d : zs} (h : zFw a b) (k : zFw b d) : zFw a d := ⟨fun p hp => (k.1 p hp).trans (h.1 p hp), fun j j1 j2 => (k.2 j j1 j2).trans (h.2 j j1 j2)⟩
section MS
variable {τ c : zs} {K t q : Nat} {st : zSt} {a : Int32}
theorem zMs_e {st' : zSt} (h1 : st'.1 = st.1) (h2 : ∀ i, i < st.1 → st'.2 i = st.2 i) (T : zMs τ a st) : zMs τ a st' := by
  obtain ⟨t1, t2, t3⟩ := T
  refine ⟨by rw [h1]; exact t1, t2, fun i hi ha => ?_⟩
  rw [h1] at hi
  rw [h2 i hi]; exact t3 i hi ha
theorem m_writes (T : zMs τ a st) (hp : st.1 < 1000) (x : Int32) : ∃ τ' : zs, f_X9_writes τ x = some (0, τ') ∧ zFw τ τ' ∧ zMs τ' a (zwc x st) := by
  obtain ⟨t1, t2, t3⟩ := T
  have key : ∀ y : Int32, (∀ i, i < st.1 + 1 → a = nI i → y = upd st.2 st.1 x i) → ∃ τ' : zs, f_X9_writes_20 τ y = some (0, τ') ∧ zFw τ τ' ∧ zMs τ' a (zwc x st) := by
    intro y hy
    rw [f_X9_writes_20, zp_o _ _ (show (15 : Nat) ≠ 17 by decide), t1, nI_1]
    exact ⟨_, rfl, ⟨fun p hp => by rw [zp_n _ _ _ hp, zp_n _ _ _ hp], fun j j1 j2 => by rw [zp_o _ _ j1, zp_o _ _ j2]⟩, zp_e _ _ _ _, by rw [zp_o _ _ (by decide), zp_o _ _ (by decide)]; exact t2, fun i hi ha => by rw [zp_o _ _ (by decide), zp_e]; exact hy i hi ha⟩
  rw [f_X9_writes, t1, t2]
  by_cases w : nI st.1 = a
  · rw [if_pos w]
    refine key x (fun i hi ha => ?_)
    rw [ha, znI_inj (by omega) (by omega)] at w
    rw [← w, upd_s]
  · rw [if_neg w]
    refine key _ (fun i hi ha => ?_)
    have e : i ≠ st.1 := by
      intro e
      rw [e] at ha
      exact w ha.symm
    rw [upd_n _ _ e]; exact t3 i (by omega) ha
theorem m_wn24 (τ : zs) {v d : Nat} (hv : v < 1000) (h0 : 0 < d) (hd : d < 1000) (rec : zs → Int32 → Int32 → Option (Int32 × zs)) : f_X9_writesNumber_24 rec τ (nI v) (nI d) = zb (f_X9_writes τ (nI (48 + v / d % 10))) (fun r2 σ3 => rec σ3 (nI v) (nI (d / 10))) := by
  have hb : (nI d != (0 : Int32)) = true := by
    rw [bne_iff_ne]
    intro e
    rw [zi0, znI_inj (by omega) (by omega)] at e
    omega
  have hvd : v / d < 2 ^ 31 := Nat.lt_of_le_of_lt (Nat.div_le_self v d) (by omega)
  rw [f_X9_writesNumber_24, if_neg (by rw [zi0, znI_le (by omega) (by omega)]; omega), hb, zg_t, pk_div (show v < 2 ^ 31 by omega) h0 (by omega), zk10, pk_rem hvd (by decide) (by decide), pk_div (show d < 2 ^ 31 by omega) (by decide) (by decide), show (48 : Int32) = nI 48 from rfl, nI_add]
theorem m_wn0 (τ : zs) (v : Int32) (rec : zs → Int32 → Int32 → Option (Int32 × zs)) : f_X9_writesNumber_24 rec τ v (nI 0) = some (0, τ) := by
  rw [f_X9_writesNumber_24, if_pos (by decide)]
theorem m_writesNumber (T : zMs τ a st) (hp : st.1 < 900) {v : Nat} (hv : v < 1000) : ∃ τ' : zs, f_X9_writesNumber τ (nI v) = some (0, τ') ∧ zFw τ τ' ∧ zMs τ' a (zwn v st) := by
  by_cases h1 : v < 10
  · obtain ⟨s1, a1, a2, a3⟩ := m_writes T (by omega) (nI (48 + v / 1 % 10))
    refine ⟨s1, ?_, a2, zMs_e (st := zwc (nI (48 + v / 1 % 10)) st) ?_ (fun i hi => ?_) a3⟩
    · rw [f_X9_writesNumber, if_pos (by rw [show (99 : Int32) = nI 99 from rfl, znI_le (by omega) (by omega)]; omega), if_pos (by rw [show (9 : Int32) = nI 9 from rfl, znI_le (by omega) (by omega)]; omega)]
      show f_X9_writesNumber_24 (zlp2 f_X9_writesNumber_24 999) τ (nI v) (nI 1) = _
      rw [m_wn24 τ hv (by decide) (by decide), a1, zb_s]
      show f_X9_writesNumber_24 (zlp2 f_X9_writesNumber_24 998) s1 (nI v) (nI 0) = _
      rw [m_wn0]
    · show st.1 + sLen v = st.1 + 1
      unfold sLen; rw [if_pos h1]
    · show sDig v st.1 st.2 i = upd st.2 st.1 (nI (48 + v / 1 % 10)) i
      unfold sDig
      rw [if_pos h1, show 48 + v / 1 % 10 = 48 + v by omega]
  · by_cases h2 : v < 100
    · obtain ⟨s1, a1, a2, a3⟩ := m_writes T (by omega) (nI (48 + v / 10 % 10))
      obtain ⟨s2, b1, b2, b3⟩ := m_writes a3 (show st.1 + 1 < 1000 by omega) (nI (48 + v / 1 % 10))
      refine ⟨s2, ?_, zFw_t a2 b2, zMs_e (st := zwc (nI (48 + v / 1 % 10)) (zwc (nI (48 + v / 10 % 10)) st)) ?_ (fun i hi => ?_) b3⟩
      · rw [f_X9_writesNumber, if_pos (by rw [show (99 : Int32) = nI 99 from rfl, znI_le (by omega) (by omega)]; omega), if_neg (by rw [show (9 : Int32) = nI 9 from rfl, znI_le (by omega) (by omega)]; omega)]
        show f_X9_writesNumber_24 (zlp2 f_X9_writesNumber_24 999) τ (nI v) (nI 10) = _
        rw [m_wn24 τ hv (by decide) (by decide), a1, zb_s]
        show f_X9_writesNumber_24 (zlp2 f_X9_writesNumber_24 998) s1 (nI v) (nI 1) = _
        rw [m_wn24 s1 hv (by decide) (by decide), b1, zb_s]
        show f_X9_writesNumber_24 (zlp2 f_X9_writesNumber_24 997) s2 (nI v) (nI 0) = _
        rw [m_wn0]
      · show st.1 + sLen v = st.1 + 1 + 1
        unfold sLen; rw [if_neg h1, if_pos h2]
      · show sDig v st.1 st.2 i = upd (upd st.2 st.1 (nI (48 + v / 10 % 10))) (st.1 + 1) (nI (48 + v / 1 % 10)) i
        unfold sDig
        rw [if_neg h1, if_pos h2, show v / 1 % 10 = v % 10 by omega, show v / 10 % 10 = v / 10 by omega]
        by_cases e1 : i = st.1
        · rw [upd_n _ _ (show i ≠ st.1 + 1 by omega), e1, upd_s, upd_s]
        · by_cases e2 : i = st.1 + 1
          · rw [upd_n _ _ e1, e2, upd_s, upd_s]
          · rw [upd_n _ _ e1, upd_n _ _ e2, upd_n _ _ e2, upd_n _ _ e1]
    · obtain ⟨s1, a1, a2, a3⟩ := m_writes T (by omega) (nI (48 + v / 100 % 10))
      obtain ⟨s2, b1, b2, b3⟩ := m_writes a3 (show st.1 + 1 < 1000 by omega) (nI (48 + v / 10 % 10))
      obtain ⟨s3, d1, d2, d3⟩ := m_writes b3 (show st.1 + 1 + 1 < 1000 by omega) (nI (48 + v / 1 % 10))
      refine ⟨s3, ?_, zFw_t (zFw_t a2 b2) d2, zMs_e (st := zwc (nI (48 + v / 1 % 10)) (zwc (nI (48 + v / 10 % 10)) (zwc (nI (48 + v / 100 % 10)) st))) ?_ (fun i hi => ?_) d3⟩
      · rw [f_X9_writesNumber, if_neg (by rw [show (99 : Int32) = nI 99 from rfl, znI_le (by omega) (by omega)]; omega)]
        show f_X9_writesNumber_24 (zlp2 f_X9_writesNumber_24 999) τ (nI v) (nI 100) = _
        rw [m_wn24 τ hv (by decide) (by decide), a1, zb_s]
        show f_X9_writesNumber_24 (zlp2 f_X9_writesNumber_24 998) s1 (nI v) (nI 10) = _
        rw [m_wn24 s1 hv (by decide) (by decide), b1, zb_s]
        show f_X9_writesNumber_24 (zlp2 f_X9_writesNumber_24 997) s2 (nI v) (nI 1) = _
        rw [m_wn24 s2 hv (by decide) (by decide), d1, zb_s]
        show f_X9_writesNumber_24 (zlp2 f_X9_writesNumber_24 996) s3 (nI v) (nI 0) = _
        rw [m_wn0]
      · show st.1 + sLen v = st.1 + 1 + 1 + 1
        unfold sLen; rw [if_neg h1, if_neg h2]
      · show sDig v st.1 st.2 i = upd (upd (upd st.2 st.1 (nI (48 + v / 100 % 10))) (st.1 + 1) (nI (48 + v / 10 % 10))) (st.1 + 1 + 1) (nI (48 + v / 1 % 10)) i
        unfold sDig
        rw [if_neg h1, if_neg h2, show v / 1 % 10 = v % 100 % 10 by omega, show v / 10 % 10 = v % 100 / 10 by omega]
        by_cases e1 : i = st.1
        · rw [upd_n _ _ (show i ≠ st.1 + 1 + 1 by omega), upd_n _ _ (show i ≠ st.1 + 1 by omega), e1, upd_s, upd_s]
        · by_cases e2 : i = st.1 + 1
          · rw [upd_n _ _ e1, upd_n _ _ (show i ≠ st.1 + 1 + 1 by omega), e2, upd_s, upd_s]
          · by_cases e3 : i = st.1 + 2
            · rw [upd_n _ _ e1, upd_n _ _ e2, e3, upd_s, upd_s]
            · rw [upd_n _ _ e1, upd_n _ _ e2, upd_n _ _ e3, upd_n _ _ (show i ≠ st.1 + 1 + 1 from e3), upd_n _ _ e2, upd_n _ _ e1]
theorem m_letter (τ : zs) {k : Nat} (hk : k < 5) : f_X9_letterOf τ (nI k) = some (nI (zleN k), τ) := by
  have hc : k = 0 ∨ k = 1 ∨ k = 2 ∨ k = 3 ∨ k = 4 := by omega
  rcases hc with rfl | rfl | rfl | rfl | rfl
  · rw [f_X9_letterOf, if_pos (by decide)]; rfl
  · rw [f_X9_letterOf, if_neg (by decide), if_pos (by decide)]; rfl
  · rw [f_X9_letterOf, if_neg (by decide), if_neg (by decide), if_pos (by decide)]; rfl
  · rw [f_X9_letterOf, if_neg (by decide), if_neg (by decide), if_neg (by decide), if_pos (by decide)]; rfl
  · rw [f_X9_letterOf, if_neg (by decide), if_neg (by decide), if_neg (by decide), if_neg (by decide)]; rfl
theorem m_67 (T : RTk c (τ 66) K t) (ht : t < 28) (hq : q < zcv c t) (M : zMs τ a st) (hst : st.1 < 800) (b : Int32) (rec : zs → Int32 → Int32 → Int32 → Option (Int32 × zs)) : ∃ τ' : zs, f_X9_describe_67 rec τ (nI t) b (nI q) = rec τ' (nI t) b (nI (q + 1)) ∧ zFw τ τ' ∧ zMs τ' a (zsp2 c t q st) := by
  have hq4 := (zcv_eq T).2
  obtain ⟨⟨w0, w1, w2⟩, r10, r11, -, -, r12⟩ := RTk_cv T hq
  obtain ⟨e10, l10, -⟩ := zr_N r10
  obtain ⟨e11, l11, -⟩ := zr_N r11
  have k1 := zsp1_le c t q st
  obtain ⟨s1, a1, a2, a3⟩ := m_writes M (by omega) (nI (zleN (zN (c 10 (t * 4 + q)))))
  obtain ⟨s2, b1, b2, b3⟩ := m_writesNumber a3 (show st.1 + 1 < 900 by omega) l11
  have f1 := a2
  have f2 := zFw_t f1 b2
  have e4 : (nI (zN (c 10 (t * 4 + q))) = (4 : Int32)) = (zN (c 10 (t * 4 + q)) = 4) := znI_inj (b := 4) (by omega) (by decide)
  have b3' : zMs s2 a (zsp1 c t q st) := b3
  rw [f_X9_describe_67, m_part0 τ ht (show q < 4 by omega), zb_s, w0, e10, m_letter τ l10, zb_s, a1, zb_s, m_part1 s1 ht (show q < 4 by omega), zb_s, f1.1 66 (by decide), w1, e11, b1, zb_s, m_part0 s2 ht (show q < 4 by omega), zb_s, f2.1 66 (by decide), w0, e10, nI_1]
  unfold zsp2
  by_cases h4 : zN (c 10 (t * 4 + q)) = 4
  · obtain ⟨e12, l12, -⟩ := zr_N (r12 (by rw [e10, h4]; rfl))
    obtain ⟨s3, d1, d2, d3⟩ := m_writes b3' (by omega) (nI 45)
    obtain ⟨s4, g1, g2, g3⟩ := m_writesNumber d3 (show (zsp1 c t q st).1 + 1 < 900 by omega) l12
    have f3 := zFw_t f2 d2
    rw [if_pos ((iff_of_eq e4).mpr h4), if_pos h4, show (45 : Int32) = nI 45 from rfl, d1, zb_s, m_part2 s3 ht (show q < 4 by omega), zb_s, f3.1 66 (by decide), w2, e12, g1, zb_s]
    refine ⟨s4, rfl, zFw_t f3 g2, ?_⟩
    rw [zN_nI (by omega)]; exact g3
  · rw [if_neg (fun z => h4 ((iff_of_eq e4).mp z)), if_neg h4]
    exact ⟨s2, rfl, f2, b3'⟩
def zQds (τ c : zs) (t : Nat) (a : Int32) (f : Nat → Int32) (x : Option (Int32 × zs)) : Prop := ∃ s : zs, x = (if nI (zspell c t f (zcv c t)).1 ≤ a then f_X9_describe_140 s a 1 else f_X9_describe_140 s a 0) ∧ zFw τ s ∧ zMs s a (zspell c t f (zcv c t))
theorem m_descLoop (T : RTk c (τ 66) K t) (ht : t < 28) {f : Nat → Int32} (M : zMs τ a (0, f)) : zQds τ c t a f (zlp3 f_X9_describe_43 1000 τ (nI t) a 0) := by
  obtain ⟨e9, hq4⟩ := zcv_eq T
  have e191 : τ 66 (191 + t) = nI (zcv c t) := by rw [(RT_cav T).1]; exact e9
  rw [zi0]
  refine zli3 (Q := zQds τ c t a f) (zcv c t) (fun j s x y z => x = nI t ∧ y = a ∧ z = nI j ∧ zFw τ s ∧ zMs s a (zspell c t f j)) ?_ ?_ 1000 (by omega) ⟨rfl, rfl, rfl, zFw_r τ, M⟩
  · rintro j hj s x y z ⟨rfl, rfl, rfl, hf, C⟩ rec kk
    have hle := zspell_le c t f j
    have Ts : RTk c (s 66) K t := by rw [hf.1 66 (by decide)]; exact T
    rw [f_X9_describe_43, zk191, nI_add, zg_in _ (by omega) (by decide), zcl (by omega), hf.1 66 (by decide), e191, if_neg (by rw [znI_le (by omega) (by omega)]; omega)]
    by_cases h0 : j = 0
    · rw [if_pos (by rw [h0]; decide)]
      obtain ⟨s', b1, b2, b3⟩ := m_67 Ts ht hj C (by omega) y rec
      rw [b1]
      refine kk _ _ _ _ ⟨rfl, rfl, rfl, zFw_t hf b2, ?_⟩
      rw [zspell_s, if_pos h0]; exact b3
    · obtain ⟨s1, d1, d2, d3⟩ := m_writes C (by omega) (nI 59)
      have Ts1 : RTk c (s1 66) K t := by rw [d2.1 66 (by decide)]; exact Ts
      obtain ⟨s', b1, b2, b3⟩ := m_67 Ts1 ht hj d3 (show (zspell c t f j).1 + 1 < 800 by omega) y rec
      rw [if_neg (by rw [zi0, znI_le (by omega) (by omega)]; omega), show (59 : Int32) = nI 59 from rfl, d1, zb_s, b1]
      refine kk _ _ _ _ ⟨rfl, rfl, rfl, zFw_t (zFw_t hf d2) b2, ?_⟩
      rw [zspell_s, if_neg h0]; exact b3
  · rintro s x y z ⟨rfl, rfl, rfl, hf, C⟩ rec
    rw [f_X9_describe_43, zk191, nI_add, zg_in _ (by omega) (by decide), zcl (by omega), hf.1 66 (by decide), e191, if_pos (Int32.le_refl _), C.1]
    exact ⟨s, rfl, hf, C⟩
end MS
/-! the call -/
theorem RA_sb {σ σ' : zs} {K : Nat} (R : RA σ K) (hf : ∀ p, ((p ≤ 12) ∨ (14 ≤ p ∧ p ≤ 53) ∨ (66 ≤ p ∧ p ≤ 68) ∨ p = 70 ∨ p = 71) → σ' p = σ p) (hj : ∀ j, (j = 2 ∨ j = 5 ∨ j = 6 ∨ j = 10) → σ' 65 j = σ 65 j) (hs : RSB σ') : RA σ' (K + 1) := by
  obtain ⟨⟨n, a1⟩, a2, a3, a4, a5⟩ := R
  refine ⟨⟨n, ?_⟩, RKp_mono (Nat.le_succ K) (RKp_cong ⟨fun p hp => hf p (by omega), hj 2 (by decide)⟩ a2), ?_, ?_, hs⟩
  · rw [hf 66 (by decide)]
    exact RS_mono (Nat.le_succ K) (RS_cong (fun p hp => hf p (by omega)) a1)
  · simp only [RRp, hf 49 (by decide), hf 50 (by decide), hf 51 (by decide), hf 70 (by decide), hf 71 (by decide), hj 10 (by decide)] at a3 ⊢
    exact a3
  · simp only [RTx, hf 52 (by decide), hf 53 (by decide), hf 68 (by decide), hj 5 (by decide), hj 6 (by decide)] at a4 ⊢
    exact a4
theorem zchar : ∀ v, v < 128 → (((nI v) &&& (255 : Int32)).toUInt32 % 65536).toInt32 = nI v := by decide +kernel
theorem zm1_lt {b : Int32} (h : b < 0) (h1 : ¬ b < (-1 : Int32)) : b = -1 := by
  rw [← Int32.toInt_inj]
  rw [Int32.lt_iff_toInt_lt] at h h1
  have e0 : (0 : Int32).toInt = 0 := rfl
  have e1 : (-1 : Int32).toInt = -1 := rfl
  rw [e0] at h
  rw [e1] at h1 ⊢
  omega
section PC2
variable {σ : zs} {K : Nat}
theorem k_describe (R : RA σ K) (a b : Int32) : zok (f_L_describe_0_75 σ a b) (fun τ => f_X9_describe τ a b) (K + 1) := by
  obtain ⟨n, hS⟩ := R.1
  obtain ⟨hn, ⟨hc, hm⟩, ht, hbx, hjn, hob, htm, hex⟩ := hS
  obtain ⟨b1, b3⟩ := R.2.2.2.2
  have o19 : ∀ τ : zs, f_X9_describe_19 τ a b 1 = some (0, zp τ 65 3 1) := fun τ => by rw [f_X9_describe_19, zp_e, if_neg (by decide)]
  rcases zcase a (n := n) (by omega) with ⟨t, h, rfl⟩ | hw
  · have T := ht t h
    obtain ⟨s, g1, g2, g3⟩ := p_spell (σ := σ) T (by omega) b1 b3
    obtain ⟨e9, hq4⟩ := zcv_eq T
    have hle := zspell_le σ t (σ 64) (zcv σ t)
    have hok := zspell_ok T (σ 64) (zcv σ t) (Nat.le_refl _)
    have cl0 : f_X8_describe σ (nI t) b = if b < (-1 : Int32) then (f_X8_describe_31 s b 0) else (if nI (zspell σ t (σ 64) (zcv σ t)).1 ≤ b then (f_X8_describe_31 s b 0) else (f_X8_describe_31 s b 1)) := by
      rw [f_X8_describe, c_tok_in hc hn h, zx_0, g1, zb_s, f_J4_length_8abf5, zb_s, g3.2.1]
    have sb : RSB s := ⟨g3.1, by rw [g3.2.1]; exact zr_i (by omega) (by omega)⟩
    have e31 : f_X8_describe_31 s b 0 = some (0 + 1, 0, s) := by rw [f_X8_describe_31, f_X8_needIndex, if_pos rfl]; rfl
    -- the reference, behind its first check
    have md : ∀ τ : zs, τ 66 = σ 66 → ¬ b < (-1 : Int32) → ∃ t2 : zs, f_X9_describe τ (nI t) b = (if nI (zspell σ t (σ 64) (zcv σ t)).1 ≤ b then f_X9_describe_140 t2 b 1 else f_X9_describe_140 t2 b 0) ∧ (∀ p, p ≠ 65 → t2 p = τ p) ∧ (∀ j, j ≠ 3 → j ≠ 15 → j ≠ 16 → j ≠ 17 → t2 65 j = τ 65 j) ∧ zMs t2 b (zspell σ t (σ 64) (zcv σ t)) := by
      intro τ e hb
      have M0 : zMs (zp (zp (zp τ 65 3 0) 65 15 0) 65 16 b) b (0, σ 64) := ⟨by rw [zp_o _ _ (by decide), zp_e]; rfl, zp_e _ _ _ _, fun i hi => absurd hi (Nat.not_lt_zero i)⟩
      obtain ⟨t2, d1, d2, d3⟩ := m_descLoop (τ := zp (zp (zp τ 65 3 0) 65 15 0) 65 16 b) (c := σ) (t := t) (a := b) (f := σ 64) (by rw [zp_n _ _ _ (by decide), zp_n _ _ _ (by decide), zp_n _ _ _ (by decide), e]; exact T) (by omega) M0
      refine ⟨t2, ?_, fun p hp => by rw [d2.1 p hp, zp_n _ _ _ hp, zp_n _ _ _ hp, zp_n _ _ _ hp], fun j j1 j2 j3 j4 => by rw [d2.2 j j2 j4, zp_o _ _ j3, zp_o _ _ j2, zp_o _ _ j1], d3⟩
      rw [f_X9_describe, m_tok_in (by rw [e]; exact hm) hn h, zb_s, if_neg (by decide), if_neg hb, f_X9_describe_19, zp_e, if_pos rfl, d1]
    generalize hX : zspell σ t (σ 64) (zcv σ t) = X at g3 hle hok cl0 md
    by_cases hb : b < (-1 : Int32)
    · refine zok_e (e := 0) (k := 1) (r' := 0) (σ1 := s) (σ2 := zp s 65 3 1) (by rw [cl0, if_pos hb]; exact e31) rfl (by decide) ?_ (zp_e _ _ _ _) (RA_sb R (fun p hp => by rw [zp_n _ _ _ (by omega)]; exact g2 p (by omega) (by omega)) (fun j hj => by rw [zp_o _ _ (by omega), g2 65 (by decide) (by decide)]) ?_)
      · show f_X9_describe s (nI t) b = _
        rw [f_X9_describe, m_tok_in (by rw [g2 66 (by decide) (by decide)]; exact hm) hn h, zb_s, if_neg (by decide), if_pos hb, o19]
      · simp only [RSB, zp_n _ _ _ (show (63 : Nat) ≠ 65 by decide)]; exact sb
    · by_cases hl : nI X.1 ≤ b
      · obtain ⟨t2, d1, d2, d3, d4⟩ := md s (g2 66 (by decide) (by decide)) hb
        refine zok_e (e := 0) (k := 1) (r' := 0) (σ1 := s) (σ2 := zp t2 65 3 1) (by rw [cl0, if_neg hb, if_pos hl]; exact e31) rfl (by decide) ?_ (zp_e _ _ _ _) (RA_sb R (fun p hp => by rw [zp_n _ _ _ (by omega), d2 p (by omega)]; exact g2 p (by omega) (by omega)) (fun j hj => by rw [zp_o _ _ (by omega), d3 j (by omega) (by omega) (by omega) (by omega), g2 65 (by decide) (by decide)]) ?_)
        · show f_X9_describe s (nI t) b = _
          rw [d1, if_pos hl, f_X9_describe_140, zp_e, if_neg (by decide)]
        · simp only [RSB, zp_n _ _ _ (show (63 : Nat) ≠ 65 by decide), d2 63 (by decide)]; exact sb
      · -- a place in the text, or its length
        have fin : ∀ r : Int32, f_X8_describe_31 s b 1 = some (0, r, s) → (∀ t2 : zs, zMs t2 b X → f_X9_describe_140 t2 b 0 = some (r, zp t2 65 3 0)) → zok (f_L_describe_0_75 σ (nI t) b) (fun τ => f_X9_describe τ (nI t) b) (K + 1) := by
          intro r h1 h2
          obtain ⟨t2, d1, d2, d3, d4⟩ := md (zp s 75 0 r) (by rw [zp_n _ _ _ (by decide)]; exact g2 66 (by decide) (by decide)) hb
          refine zok_0 (r := r) (σ1 := s) (σ2 := zp t2 65 3 0) (by rw [cl0, if_neg hb, if_neg hl]; exact h1) ?_ (zp_e _ _ _ _) ?_ (RA_sb R (fun p hp => by rw [zp_n _ _ _ (by omega), d2 p (by omega), zp_n _ _ _ (by omega)]; exact g2 p (by omega) (by omega)) (fun j hj => by rw [zp_o _ _ (by omega), d3 j (by omega) (by omega) (by omega) (by omega), zp_n _ _ _ (by decide), g2 65 (by decide) (by decide)]) ?_)
          · show f_X9_describe (zp s 75 0 r) (nI t) b = _
            rw [d1, if_neg hl]; exact h2 t2 d4
          · rw [zp_n _ _ _ (by decide), d2 75 (by decide)]
          · simp only [RSB, zp_n _ _ _ (show (63 : Nat) ≠ 65 by decide), d2 63 (by decide), zp_n _ _ _ (show (63 : Nat) ≠ 75 by decide)]; exact sb
        rcases zcase b (n := X.1) (by omega) with ⟨i, hi, rfl⟩ | hb2
        · obtain ⟨v, v1, v2⟩ := hok i hi
          have c3 : s 63 3 = nI X.1 := g3.2.1
          have g : (decide ((0 : Int32) ≤ nI i) && decide ((0 : Int32) ≤ nI X.1) && decide (X.1 ≤ 40) && decide (i < X.1) && decide ((0 : Int32) = 0)) = true := by
            rw [decide_eq_true (nI_pos' (show i < 2 ^ 31 by omega)), decide_eq_true (nI_pos' (show X.1 < 2 ^ 31 by omega)), decide_eq_true (show X.1 ≤ 40 by omega), decide_eq_true hi]; rfl
          refine fin (nI v) ?_ (fun t2 M => ?_)
          · rw [f_X8_describe_31, f_X8_needIndex, if_neg (by decide), zx_0, if_neg (z_m1 (by omega)), f_J4_charAt_5068e, c3, g3.1, zcl (show i < 2147483648 by omega), zcl (show X.1 < 2147483648 by omega), g, zg_t, g3.2.2, v2, zchar v v1, zb_s]
          · rw [f_X9_describe_140, zp_e, if_pos rfl, if_pos (nI_pos' (show i < 2 ^ 31 by omega)), zp_o _ _ (by decide), M.2.2 i hi rfl, v2]
        · have hb3 : b < 0 := by
            rcases hb2 with z | z
            · exact z
            · exact absurd z hl
          have hb1 := zm1_lt hb3 hb
          subst hb1
          refine fin (nI X.1) ?_ (fun t2 M => ?_)
          · rw [f_X8_describe_31, f_X8_needIndex, if_neg (by decide), zx_0, if_pos rfl, f_J4_length_8abf5, zb_s, g3.2.1]
          · rw [f_X9_describe_140, zp_e, if_pos rfl, if_neg (by decide), zp_o _ _ (by decide), M.1]
  · refine zokq_e 0 1 R ⟨σ, 0, ?_, zQx_refl σ⟩ (fun _ => rfl) (by decide) (fun τ hv => ⟨zp τ 65 3 1, 0, ?_, zp_e _ _ _ _, zMx_3 _ _⟩)
    · rw [f_X8_describe, c_tok_out hc hw]; rfl
    · rw [f_X9_describe, m_tok_out (by rw [hv 66 (by decide) (by decide)]; exact hm) hn hw, zb_s, if_pos rfl, o19]
end PC2
