/-! texts: signs and numbers -/
def zdg (g : Nat → Int32) (w a : Nat) : Bool := decide (a < w) && (!decide (g a < 48) && !decide (57 < g a))
def zdv (g : Nat → Int32) (a : Nat) : Nat := zN (g a) - 48
def znl (g : Nat → Int32) (w a : Nat) : Nat := if zdg g w a then (if g a = 48 then 1 else if zdg g w (a + 1) then (if zdg g w (a + 2) then 3 else 2) else 1) else 0
def znv (g : Nat → Int32) (w a : Nat) : Nat := if zdg g w a then (if g a = 48 then 0 else if zdg g w (a + 1) then (if zdg g w (a + 2) then 10 * (10 * zdv g a + zdv g (a + 1)) + zdv g (a + 2) else 10 * zdv g a + zdv g (a + 1)) else zdv g a) else 0
def zsg (g : Nat → Int32) (w : Nat) : Prop := ∀ i, i < w → zr (g i) 127
theorem zdg_v {g : Nat → Int32} {w a : Nat} (hg : zsg g w) (h : zdg g w a = true) : a < w ∧ zdv g a < 10 ∧ g a = nI (48 + zdv g a) := by
  unfold zdg at h
  simp only [Bool.and_eq_true, Bool.not_eq_true', decide_eq_true_eq, decide_eq_false_iff_not] at h
  obtain ⟨h1, h2, h3⟩ := h
  obtain ⟨v, v1, v2, v3⟩ := hg a h1
  rw [v3, show (48 : Int32) = nI 48 from rfl, znI_lt v2 (by omega)] at h2
  rw [v3, show (57 : Int32) = nI 57 from rfl, znI_lt (by omega) v2] at h3
  unfold zdv
  rw [v3, zN_nI v2]
  exact ⟨h1, by omega, by congr 1; omega⟩
theorem zdg_48 {g : Nat → Int32} {w a : Nat} (hg : zsg g w) (h : zdg g w a = true) : (g a = 48) = (zdv g a = 0) := by
  obtain ⟨h1, h2, h3⟩ := zdg_v hg h
  have e := h3
  rw [show (g a = 48) = (nI (48 + zdv g a) = nI 48) from by rw [← h3]; rfl, znI_inj (by omega) (by omega)]
  apply propext; omega
theorem znl_le {g : Nat → Int32} {w a : Nat} (ha : a ≤ w) : a + znl g w a ≤ w := by
  have hd : ∀ b, zdg g w b = true → b < w := fun b h => by
    unfold zdg at h
    simp only [Bool.and_eq_true, decide_eq_true_eq] at h
    exact h.1
  unfold znl
  by_cases h0 : zdg g w a = true
  · have := hd _ h0
    rw [if_pos h0]
    split
    · omega
    · by_cases h1 : zdg g w (a + 1) = true
      · have := hd _ h1
        rw [if_pos h1]
        by_cases h2 : zdg g w (a + 2) = true
        · have := hd _ h2
          rw [if_pos h2]; omega
        · rw [if_neg h2]; omega
      · rw [if_neg h1]; omega
  · rw [if_neg h0]; omega
theorem znv_le {g : Nat → Int32} {w a : Nat} (hg : zsg g w) : znv g w a < 1000 := by
  unfold znv
  by_cases h0 : zdg g w a = true
  · have q0 := (zdg_v hg h0).2.1
    rw [if_pos h0]
    split
    · omega
    · by_cases h1 : zdg g w (a + 1) = true
      · have q1 := (zdg_v hg h1).2.1
        rw [if_pos h1]
        by_cases h2 : zdg g w (a + 2) = true
        · have q2 := (zdg_v hg h2).2.1
          rw [if_pos h2]; omega
        · rw [if_neg h2]; omega
      · rw [if_neg h1]; omega
  · rw [if_neg h0]; omega
/-- the class's text -/
def zTx (s : zs) (g : Nat → Int32) (w a : Nat) (e : Int32) : Prop := s 52 1 = nI w ∧ s 52 7 = nI a ∧ s 52 2 = e ∧ s 53 = g
theorem zTx_at {s : zs} {g : Nat → Int32} {w a : Nat} {e : Int32} (T : zTx s g w a e) (b : Nat) : zTx (zp s 52 7 (nI b)) g w b e := ⟨by rw [zp_o _ _ (by decide)]; exact T.1, zp_e _ _ _ _, by rw [zp_o _ _ (by decide)]; exact T.2.2.1, by rw [zp_n _ _ _ (by decide)]; exact T.2.2.2⟩
theorem zTx_er {s : zs} {g : Nat → Int32} {w a : Nat} {e : Int32} (T : zTx s g w a e) (x : Int32) : zTx (zp s 52 2 x) g w a x := ⟨by rw [zp_o _ _ (by decide)]; exact T.1, by rw [zp_o _ _ (by decide)]; exact T.2.1, zp_e _ _ _ _, by rw [zp_n _ _ _ (by decide)]; exact T.2.2.2⟩
section QA
variable {s τ : zs} {g : Nat → Int32} {w a : Nat} {e : Int32}
theorem p_isNext (hw : w ≤ 40) (ha : a ≤ w) (T : zTx s g w a e) (x : Int32) : f_X1_isNext s x = some (bI (decide (a < w) && decide (g a = x)), s) := by
  obtain ⟨t1, t2, t3, t4⟩ := T
  rw [f_X1_isNext, t1, t2]
  simp (disch := omega) only [znI_le]
  by_cases h : w ≤ a
  · rw [if_pos h, decide_eq_false (by omega)]; rfl
  · rw [if_neg h, zg_in _ (by omega) (by omega), zcl (by omega), t4, decide_eq_true (by omega)]
    by_cases q : g a = x
    · rw [if_pos q, decide_eq_true q]; rfl
    · rw [if_neg q, decide_eq_false q]; rfl
theorem p_isDigitNext (hw : w ≤ 40) (ha : a ≤ w) (T : zTx s g w a e) : f_X1_isDigitNext s = some (bI (zdg g w a), s) := by
  obtain ⟨t1, t2, t3, t4⟩ := T
  rw [f_X1_isDigitNext, t1, t2]
  unfold zdg
  simp (disch := omega) only [znI_le]
  by_cases h : w ≤ a
  · rw [if_pos h, decide_eq_false (by omega)]; rfl
  · rw [if_neg h, zg_in _ (by omega) (by omega), zg_in _ (by omega) (by omega), zcl (by omega), t4, decide_eq_true (by omega)]
    by_cases q : g a < 48
    · rw [if_pos q, decide_eq_true q]; rfl
    · rw [if_neg q, decide_eq_false q]
      by_cases r : 57 < g a
      · rw [if_pos r, decide_eq_true r]; rfl
      · rw [if_neg r, decide_eq_false r]; rfl
theorem p_rn42 (hg : zsg g w) (hw : w ≤ 40) (ha : a ≤ w) (T : zTx s g w a e) {v k : Nat} (hv : v < 100000) (hk : k < 3) (rec : zs → Int32 → Int32 → Option (Int32 × zs)) : f_X1_readNumber_42 rec s (nI v) (nI k) = if zdg g w a then rec (zp s 52 7 (nI (a + 1))) (nI (10 * v + zdv g a)) (nI (k + 1)) else some (nI v, s) := by
  rw [f_X1_readNumber_42, if_neg (by rw [zk3, znI_le (by omega) (by omega)]; omega), p_isDigitNext hw ha T, zb_s, bI_0]
  cases hd : zdg g w a with
  | false => rfl
  | true =>
    obtain ⟨d1, d2, d3⟩ := zdg_v hg hd
    have e1 : (10 : Int32) * nI v + g a - 48 = nI (10 * v + zdv g a) := by
      rw [d3, zk10, nI_mul, nI_add, show (48 : Int32) = nI 48 from rfl, nI_sub (by omega)]
      congr 1; omega
    rw [if_pos rfl, if_pos rfl, T.2.1, zg_in _ (by omega) (by omega), zcl (by omega), T.2.2.2, e1, nI_1, nI_1]
theorem p_rn3 {v : Int32} (rec : zs → Int32 → Int32 → Option (Int32 × zs)) : f_X1_readNumber_42 rec s v (nI 3) = some (v, s) := by
  rw [f_X1_readNumber_42, if_pos (by decide)]
def zQrn (s : zs) (g : Nat → Int32) (w a : Nat) (x : Option (Int32 × zs)) : Prop := ∃ s' : zs, x = some (nI (znv g w a), s') ∧ (∀ p, p ≠ 52 → s' p = s p) ∧ (∀ j, j ≠ 7 → j ≠ 2 → s' 52 j = s 52 j) ∧ zTx s' g w (a + znl g w a) (if znl g w a = 0 then nI a else -1)
theorem p_readNumber (hg : zsg g w) (hw : w ≤ 40) (ha : a ≤ w) (T : zTx s g w a (-1)) : zQrn s g w a (f_X1_readNumber s) := by
  rw [f_X1_readNumber, p_isDigitNext hw ha T, zb_s, bI_0]
  unfold zQrn znv znl
  cases h0 : zdg g w a with
  | false =>
    rw [if_neg (by decide), if_neg (by decide), if_neg (by decide), if_pos rfl, T.2.1]
    exact ⟨_, rfl, fun p hp => zp_n _ _ _ hp, fun j _ j2 => zp_o _ _ j2, zTx_er T (nI a)⟩
  | true =>
    have d0 := zdg_v hg h0
    rw [if_pos rfl, if_pos rfl, if_pos rfl, p_isNext hw ha T, zb_s, decide_eq_true d0.1, Bool.true_and]
    by_cases q : g a = 48
    · rw [decide_eq_true q, if_neg (show ¬ bI true = 0 by decide), if_pos q, if_pos q, if_neg (by decide), T.2.1, nI_1]
      exact ⟨_, rfl, fun p hp => zp_n _ _ _ hp, fun j j1 _ => zp_o _ _ j1, zTx_at T (a + 1)⟩
    · rw [decide_eq_false q, if_pos (show bI false = 0 from rfl), if_neg q, if_neg q]
      have T1 := zTx_at T (a + 1)
      have T2 := zTx_at T1 (a + 1 + 1)
      have T3 := zTx_at T2 (a + 1 + 1 + 1)
      have st1 : zlp2 f_X1_readNumber_42 1000 s 0 0 = zlp2 f_X1_readNumber_42 999 (zp s 52 7 (nI (a + 1))) (nI (zdv g a)) (nI 1) := by
        show f_X1_readNumber_42 (zlp2 f_X1_readNumber_42 999) s (nI 0) (nI 0) = _
        rw [p_rn42 hg hw ha T (by omega) (by omega), h0, if_pos rfl]
        congr 2; omega
      have st2 := p_rn42 hg hw (show a + 1 ≤ w by omega) T1 (v := zdv g a) (k := 1) (by omega) (by omega) (zlp2 f_X1_readNumber_42 998)
      rw [st1]
      show ∃ s' : zs, f_X1_readNumber_42 (zlp2 f_X1_readNumber_42 998) (zp s 52 7 (nI (a + 1))) (nI (zdv g a)) (nI 1) = _ ∧ _
      rw [st2]
      cases h1 : zdg g w (a + 1) with
      | false =>
        rw [if_neg (by decide), if_neg (by decide), if_neg (by decide), if_neg (by decide)]
        exact ⟨_, rfl, fun p hp => zp_n _ _ _ hp, fun j j1 _ => zp_o _ _ j1, T1⟩
      | true =>
        have d1 := zdg_v hg h1
        rw [if_pos rfl, if_pos rfl, if_pos rfl]
        have st3 := p_rn42 hg hw (show a + 1 + 1 ≤ w by omega) T2 (v := 10 * zdv g a + zdv g (a + 1)) (k := 2) (by omega) (by omega) (zlp2 f_X1_readNumber_42 997)
        show ∃ s' : zs, f_X1_readNumber_42 (zlp2 f_X1_readNumber_42 997) (zp (zp s 52 7 (nI (a + 1))) 52 7 (nI (a + 1 + 1))) (nI (10 * zdv g a + zdv g (a + 1))) (nI 2) = _ ∧ _
        rw [st3]
        have ea : a + 1 + 1 = a + 2 := rfl
        rw [ea]
        cases h2 : zdg g w (a + 2) with
        | false =>
          rw [if_neg (by decide), if_neg (by decide), if_neg (by decide), if_neg (by decide)]
          exact ⟨_, rfl, fun p hp => by rw [zp_n _ _ _ hp, zp_n _ _ _ hp], fun j j1 _ => by rw [zp_o _ _ j1, zp_o _ _ j1], T2⟩
        | true =>
          have d2 := zdg_v hg h2
          rw [if_pos rfl, if_pos rfl, if_pos rfl, if_neg (by decide)]
          show ∃ s' : zs, f_X1_readNumber_42 (zlp2 f_X1_readNumber_42 996) _ _ (nI 3) = _ ∧ _
          rw [p_rn3]
          exact ⟨_, rfl, fun p hp => by rw [zp_n _ _ _ hp, zp_n _ _ _ hp, zp_n _ _ _ hp], fun j j1 _ => by rw [zp_o _ _ j1, zp_o _ _ j1, zp_o _ _ j1], T3⟩
/-- the reference's text -/
def zTm (τ : zs) (g : Nat → Int32) (w a : Nat) : Prop := τ 65 5 = nI w ∧ τ 65 11 = nI a ∧ ∀ i, i < w → τ 68 i = g i
theorem zTm_at (T : zTm τ g w a) (b : Nat) : zTm (zp τ 65 11 (nI b)) g w b := ⟨by rw [zp_o _ _ (by decide)]; exact T.1, zp_e _ _ _ _, by rw [zp_n _ _ _ (by decide)]; exact T.2.2⟩
theorem zTm_nu (T : zTm τ g w a) (x : Int32) : zTm (zp τ 65 12 x) g w a := ⟨by rw [zp_o _ _ (by decide)]; exact T.1, by rw [zp_o _ _ (by decide)]; exact T.2.1, by rw [zp_n _ _ _ (by decide)]; exact T.2.2⟩
def zhe (g : Nat → Int32) (w a : Nat) : Int32 := if a < w then g a else -1
theorem m_here (hw : w ≤ 40) (ha : a ≤ w) (T : zTm τ g w a) : f_X9_here τ = some (zhe g w a, τ) := by
  obtain ⟨t1, t2, t3⟩ := T
  rw [f_X9_here, t1, t2]
  unfold zhe
  simp (disch := omega) only [znI_le]
  by_cases h : w ≤ a
  · rw [if_pos h, if_neg (by omega)]
  · rw [if_neg h, zg_in _ (by omega) (by omega), zcl (by omega), t3 a (by omega), if_pos (by omega)]
theorem m_dig (τ : zs) (g : Nat → Int32) (w a : Nat) : f_X9_isIn τ (zhe g w a) 48 57 = some (bI (zdg g w a), τ) := by
  unfold zhe zdg
  by_cases h : a < w
  · rw [if_pos h, decide_eq_true h, Bool.true_and]
    by_cases q : g a < 48
    · rw [m_isIn_out _ (Or.inl q), decide_eq_true q]; rfl
    · by_cases r : 57 < g a
      · rw [m_isIn_out _ (Or.inr r), decide_eq_true r, Bool.not_true, Bool.and_false]; rfl
      · rw [m_isIn_in _ (zle_nlt.mpr q) (zle_nlt.mpr r), decide_eq_false q, decide_eq_false r]; rfl
  · rw [if_neg h, decide_eq_false h, m_isIn_out _ (Or.inl (by decide))]; rfl
theorem m_107 {l h fr v : Nat} (hl : l < 100000) (hh : h < 100000) (hv : v < 100000) {x : Int32} (h11 : τ 65 11 = x) (h12 : τ 65 12 = nI v) : f_X9_takesNumber_107 τ (nI l) (nI h) (nI fr) = some (bI (decide (l ≤ v) && decide (v ≤ h)), zp τ 65 11 (if decide (l ≤ v) && decide (v ≤ h) then x else nI fr)) := by
  rw [f_X9_takesNumber_107, h12]
  by_cases q : l ≤ v
  · by_cases r : v ≤ h
    · rw [m_isIn_in _ (by rw [znI_le (by omega) (by omega)]; exact q) (by rw [znI_le (by omega) (by omega)]; exact r), zb_s, if_neg (by decide), h11, decide_eq_true q, decide_eq_true r]; rfl
    · rw [m_isIn_out _ (Or.inr (by rw [znI_lt (by omega) (by omega)]; omega)), zb_s, if_pos rfl, decide_eq_false r, Bool.and_false]; rfl
  · rw [m_isIn_out _ (Or.inl (by rw [znI_lt (by omega) (by omega)]; omega)), zb_s, if_pos rfl, decide_eq_false q, Bool.false_and]; rfl
/-- one digit more, or the end -/
theorem m_tn45 (hg : zsg g w) (hw : w ≤ 40) (ha : a ≤ w) (T : zTm τ g w a) {v k : Nat} (hv : v < 100000) (h0 : v ≠ 0) (h12 : τ 65 12 = nI v) (hk : k < 3) (lo hi fr : Int32) (rec : zs → Int32 → Int32 → Int32 → Int32 → Option (Int32 × zs)) : f_X9_takesNumber_45 rec τ lo hi fr (nI k) = if zdg g w a then rec (zp (zp τ 65 12 (nI (10 * v + zdv g a))) 65 11 (nI (a + 1))) lo hi fr (nI (k + 1)) else f_X9_takesNumber_107 τ lo hi fr := by
  rw [f_X9_takesNumber_45, if_neg (by rw [zk3, znI_le (by omega) (by omega)]; omega), h12, if_neg (by rw [zi0, znI_le (by omega) (by omega)]; omega), m_here hw ha T, zb_s, m_dig, zb_s, bI_0]
  cases hd : zdg g w a with
  | false => rfl
  | true =>
    obtain ⟨d1, d2, d3⟩ := zdg_v hg hd
    have e1 : (10 : Int32) * nI v + zhe g w a - 48 = nI (10 * v + zdv g a) := by
      unfold zhe
      rw [if_pos d1, d3, zk10, nI_mul, nI_add, show (48 : Int32) = nI 48 from rfl, nI_sub (by omega)]
      congr 1; omega
    rw [if_pos rfl, if_pos rfl, m_here hw ha T, zb_s, h12, e1, zp_o _ _ (by decide), T.2.1, nI_1, nI_1]
theorem m_tn3 (lo hi fr : Int32) (rec : zs → Int32 → Int32 → Int32 → Int32 → Option (Int32 × zs)) : f_X9_takesNumber_45 rec τ lo hi fr (nI 3) = f_X9_takesNumber_107 τ lo hi fr := by
  rw [f_X9_takesNumber_45, if_pos (by decide)]
def zQtn (τ : zs) (g : Nat → Int32) (w a l h : Nat) (x : Option (Int32 × zs)) : Prop := ∃ (b : Bool) (τ' : zs), x = some (bI b, τ') ∧ b = (!decide (znl g w a = 0) && (decide (l ≤ znv g w a) && decide (znv g w a ≤ h))) ∧ (∀ p, p ≠ 65 → τ' p = τ p) ∧ (∀ j, j ≠ 11 → j ≠ 12 → τ' 65 j = τ 65 j) ∧ (b = true → zTm τ' g w (a + znl g w a) ∧ τ' 65 12 = nI (znv g w a)) ∧ (b = false → τ' 65 11 = nI a)
theorem m_tnend {τ0 : zs} {a b v l h : Nat} (hl : l < 100000) (hh : h < 100000) (hv : v < 100000) (hb : b ≤ 40) (T : zTm τ g w b) (h12 : τ 65 12 = nI v) (f1 : ∀ p, p ≠ 65 → τ p = τ0 p) (f2 : ∀ j, j ≠ 11 → j ≠ 12 → τ 65 j = τ0 65 j) (e1 : a + znl g w a = b) (e2 : znv g w a = v) (e3 : znl g w a ≠ 0) : zQtn τ0 g w a l h (f_X9_takesNumber_107 τ (nI l) (nI h) (nI a)) := by
  rw [m_107 hl hh hv T.2.1 h12]
  refine ⟨_, _, rfl, by rw [decide_eq_false e3, e2]; rfl, fun p hp => by rw [zp_n _ _ _ hp]; exact f1 p hp, fun j j1 j2 => by rw [zp_o _ _ j1]; exact f2 j j1 j2, fun hb2 => ?_, fun hb2 => ?_⟩
  · rw [if_pos hb2, e1, e2]
    exact ⟨zTm_at T b, by rw [zp_o _ _ (by decide)]; exact h12⟩
  · rw [hb2, zp_e]; rfl
theorem m_takesNumber (hg : zsg g w) (hw : w ≤ 40) (ha : a ≤ w) (T : zTm τ g w a) {l h : Nat} (hl : l < 100000) (hh : h < 100000) : zQtn τ g w a l h (f_X9_takesNumber τ (nI l) (nI h)) := by
  rw [f_X9_takesNumber, m_here hw ha T, zb_s, m_dig, zb_s, bI_0]
  cases h0 : zdg g w a with
  | false =>
    have e : znl g w a = 0 := by unfold znl; rw [if_neg (by rw [h0]; decide)]
    rw [if_neg (by decide)]
    exact ⟨false, τ, rfl, by rw [decide_eq_true e]; rfl, fun _ _ => rfl, fun _ _ _ => rfl, fun q => (by cases q), fun _ => T.2.1⟩
  | true =>
    have d0 := zdg_v hg h0
    have e0 : zhe g w a - 48 = nI (zdv g a) := by
      unfold zhe
      rw [if_pos d0.1, d0.2.2, show (48 : Int32) = nI 48 from rfl, nI_sub (by omega)]
      congr 1; omega
    have T1 := zTm_at (zTm_nu T (nI (zdv g a))) (a + 1)
    rw [if_pos rfl, m_here hw ha T, zb_s, e0, zp_o _ _ (by decide), T.2.1, nI_1]
    have n1 : (zp (zp τ 65 12 (nI (zdv g a))) 65 11 (nI (a + 1))) 65 12 = nI (zdv g a) := by rw [zp_o _ _ (by decide), zp_e]
    have f1 : ∀ p, p ≠ 65 → (zp (zp τ 65 12 (nI (zdv g a))) 65 11 (nI (a + 1))) p = τ p := fun p hp => by rw [zp_n _ _ _ hp, zp_n _ _ _ hp]
    have f2 : ∀ j, j ≠ 11 → j ≠ 12 → (zp (zp τ 65 12 (nI (zdv g a))) 65 11 (nI (a + 1))) 65 j = τ 65 j := fun j j1 j2 => by rw [zp_o _ _ j1, zp_o _ _ j2]
    generalize zp (zp τ 65 12 (nI (zdv g a))) 65 11 (nI (a + 1)) = τ1 at T1 n1 f1 f2
    show zQtn τ g w a l h (f_X9_takesNumber_45 (zlp4 f_X9_takesNumber_45 999) τ1 (nI l) (nI h) (nI a) (nI 1))
    have q48 := zdg_48 hg h0
    by_cases q : zdv g a = 0
    · have e1 : f_X9_takesNumber_45 (zlp4 f_X9_takesNumber_45 999) τ1 (nI l) (nI h) (nI a) (nI 1) = f_X9_takesNumber_107 τ1 (nI l) (nI h) (nI a) := by
        rw [f_X9_takesNumber_45, if_neg (by decide), n1, q, if_pos (by decide)]
      rw [e1]
      have q' : g a = 48 := by rw [q48]; exact q
      exact m_tnend hl hh (show zdv g a < 100000 by omega) (by omega) T1 n1 f1 f2 (by unfold znl; rw [if_pos h0, if_pos q']) (by unfold znv; rw [if_pos h0, if_pos q', q]) (by unfold znl; rw [if_pos h0, if_pos q']; decide)
    · have q' : ¬ g a = 48 := by rw [q48]; exact q
      rw [m_tn45 hg hw (show a + 1 ≤ w by omega) T1 (by omega) q n1 (by omega)]
      cases h1 : zdg g w (a + 1) with
      | false =>
        rw [if_neg (by decide)]
        have h1' : ¬ zdg g w (a + 1) = true := by rw [h1]; decide
        exact m_tnend hl hh (show zdv g a < 100000 by omega) (by omega) T1 n1 f1 f2 (by unfold znl; rw [if_pos h0, if_neg q', if_neg h1']) (by unfold znv; rw [if_pos h0, if_neg q', if_neg h1']) (by unfold znl; rw [if_pos h0, if_neg q', if_neg h1']; decide)
      | true =>
        have d1 := zdg_v hg h1
        have T2 := zTm_at (zTm_nu T1 (nI (10 * zdv g a + zdv g (a + 1)))) (a + 1 + 1)
        have n2 : (zp (zp τ1 65 12 (nI (10 * zdv g a + zdv g (a + 1)))) 65 11 (nI (a + 1 + 1))) 65 12 = nI (10 * zdv g a + zdv g (a + 1)) := by rw [zp_o _ _ (by decide), zp_e]
        have f3 : ∀ p, p ≠ 65 → (zp (zp τ1 65 12 (nI (10 * zdv g a + zdv g (a + 1)))) 65 11 (nI (a + 1 + 1))) p = τ p := fun p hp => by rw [zp_n _ _ _ hp, zp_n _ _ _ hp]; exact f1 p hp
        have f4 : ∀ j, j ≠ 11 → j ≠ 12 → (zp (zp τ1 65 12 (nI (10 * zdv g a + zdv g (a + 1)))) 65 11 (nI (a + 1 + 1))) 65 j = τ 65 j := fun j j1 j2 => by rw [zp_o _ _ j1, zp_o _ _ j2]; exact f2 j j1 j2
        rw [if_pos rfl]
        generalize zp (zp τ1 65 12 (nI (10 * zdv g a + zdv g (a + 1)))) 65 11 (nI (a + 1 + 1)) = τ2 at T2 n2 f3 f4
        show zQtn τ g w a l h (f_X9_takesNumber_45 (zlp4 f_X9_takesNumber_45 998) τ2 (nI l) (nI h) (nI a) (nI 2))
        rw [m_tn45 hg hw (show a + 1 + 1 ≤ w by omega) T2 (by omega) (by omega) n2 (by omega)]
        cases h2 : zdg g w (a + 1 + 1) with
        | false =>
          rw [if_neg (by decide)]
          have h2' : ¬ zdg g w (a + 2) = true := by rw [show a + 2 = a + 1 + 1 from rfl, h2]; decide
          exact m_tnend hl hh (show 10 * zdv g a + zdv g (a + 1) < 100000 by omega) (by omega) T2 n2 f3 f4 (by unfold znl; rw [if_pos h0, if_neg q', if_pos h1, if_neg h2']) (by unfold znv; rw [if_pos h0, if_neg q', if_pos h1, if_neg h2']) (by unfold znl; rw [if_pos h0, if_neg q', if_pos h1, if_neg h2']; decide)
        | true =>
          have h2' : zdg g w (a + 2) = true := h2
          have d2 := zdg_v hg h2
          have T3 := zTm_at (zTm_nu T2 (nI (10 * (10 * zdv g a + zdv g (a + 1)) + zdv g (a + 1 + 1)))) (a + 1 + 1 + 1)
          rw [if_pos rfl]
          show zQtn τ g w a l h (f_X9_takesNumber_45 (zlp4 f_X9_takesNumber_45 997) _ (nI l) (nI h) (nI a) (nI 3))
          rw [m_tn3]
          exact m_tnend hl hh (show 10 * (10 * zdv g a + zdv g (a + 1)) + zdv g (a + 1 + 1) < 100000 by omega) (by omega) T3 (by rw [zp_o _ _ (by decide), zp_e]) (fun p hp => by rw [zp_n _ _ _ hp, zp_n _ _ _ hp]; exact f3 p hp) (fun j j1 j2 => by rw [zp_o _ _ j1, zp_o _ _ j2]; exact f4 j j1 j2) (by unfold znl; rw [if_pos h0, if_neg q', if_pos h1, if_pos h2']) (by unfold znv; rw [if_pos h0, if_neg q', if_pos h1, if_pos h2']) (by unfold znl; rw [if_pos h0, if_neg q', if_pos h1, if_pos h2']; decide)
end QA
