/-! append -/
def zsh4 (i : Nat) : Int32 := if i = 0 then 24 else if i = 1 then 16 else if i = 2 then 8 else if i = 3 then 0 else -8
def zby (a : Int32) (i : Nat) : Int32 := ((a.toUInt32 >>> ((zsh4 i).toUInt32 &&& Int32.toUInt32 31)).toInt32) &&& (255 : Int32)
theorem zsh4_s : ∀ i, i < 4 → zsh4 i + (-8 : Int32) = zsh4 (i + 1) ∧ ¬ zsh4 i < 0 := by decide
def zbok (x : Int32) : Bool := decide (x = 0) || (!decide (x < 33) && !decide (126 < x))
def zNz (a : Int32) (i : Nat) : Bool := !decide (zby a i = 0)
def ztx (a : Int32) (st : Nat × (Nat → Int32)) (i : Nat) : Nat × (Nat → Int32) := if zby a i = 0 then st else (st.1 + 1, upd st.2 st.1 (zby a i))
theorem ztx_1 (a : Int32) (st : Nat × (Nat → Int32)) : ∀ i, (zfold (ztx a) st i).1 = st.1 + zcnt (zNz a) i
  | 0 => rfl
  | i + 1 => by
    have ih := ztx_1 a st i
    show (ztx a (zfold (ztx a) st i) i).1 = _
    unfold ztx
    rw [zcnt]
    by_cases w : zby a i = 0
    · rw [if_pos w, if_neg (by unfold zNz; rw [decide_eq_true w]; decide)]
      exact ih
    · rw [if_neg w, if_pos (by unfold zNz; rw [decide_eq_false w]; rfl)]
      show (zfold (ztx a) st i).1 + 1 = _
      rw [ih]; omega
theorem zsign : ∀ v, v < 127 → vp_nar .char (((nI v).toUInt32 % 65536).toInt32) = nI v := by decide +kernel
/-- a sign that is no 0 -/
theorem zbok_v {x : Int32} (h : zbok x = true) (h0 : x ≠ 0) : ∃ v, v < 127 ∧ 33 ≤ v ∧ x = nI v := by
  unfold zbok at h
  rw [decide_eq_false h0, Bool.false_or, Bool.and_eq_true, Bool.not_eq_true', Bool.not_eq_true', decide_eq_false_iff_not, decide_eq_false_iff_not] at h
  obtain ⟨h1, h2⟩ := h
  have e33 : (33 : Int32).toInt = 33 := by decide
  have e126 : (126 : Int32).toInt = 126 := by decide
  rw [Int32.lt_iff_toInt_lt, e33] at h1
  rw [Int32.lt_iff_toInt_lt, e126] at h2
  have hn : ¬ x < 0 := by
    rw [Int32.lt_iff_toInt_lt, show (0 : Int32).toInt = 0 from by decide]; omega
  obtain ⟨j, hj, rfl⟩ := nI_of hn
  rw [nI_toInt hj] at h1 h2
  exact ⟨j, by omega, by omega, rfl⟩
section PV
variable {σ τ : zs} {K : Nat}
theorem p_addSign {s : zs} {w : Nat} {x : Int32} (hx : zbok x = true) (hw : s 52 1 = nI w) (hb : x ≠ 0 → w < 40) : f_X1_addSign s x = some (0, if x = 0 then s else zp (zp s 53 w x) 52 1 (nI (w + 1))) := by
  rw [f_X1_addSign]
  by_cases h0 : x = 0
  · rw [if_pos h0, if_pos h0]
  · have hw40 := hb h0
    obtain ⟨v, v1, v2, v3⟩ := zbok_v hx h0
    rw [if_neg h0, if_neg h0, hw, if_neg (by rw [zk40, znI_le (by omega) (by omega)]; omega), zg_in _ (by omega) (by omega), zcl (by omega), zp_n _ _ _ (by decide), hw, nI_1, v3, zsign v v1]
def zQac (σ : zs) (a : Int32) (w : Nat) (x : Option zO) : Prop := ∃ s : zs, x = some (0, nI (zfold (ztx a) (w, σ 53) 4).1, s) ∧ (∀ p, p ≠ 52 → p ≠ 53 → s p = σ p) ∧ (∀ j, j ≠ 1 → s 52 j = σ 52 j) ∧ s 52 1 = nI (zfold (ztx a) (w, σ 53) 4).1 ∧ s 53 = (zfold (ztx a) (w, σ 53) 4).2
theorem p_app78 {a : Int32} {w : Nat} (hok : ∀ i, i < 4 → zbok (zby a i) = true) (hw : σ 52 1 = nI w) (hb : w + zcnt (zNz a) 4 ≤ 40) : zQac σ a w (zlp2 f_X8_append_78 5 σ a 24) := by
  refine zli2 (Q := zQac σ a w) 4 (fun i s x y => x = a ∧ y = zsh4 i ∧ (∀ p, p ≠ 52 → p ≠ 53 → s p = σ p) ∧ (∀ j, j ≠ 1 → s 52 j = σ 52 j) ∧ s 52 1 = nI (zfold (ztx a) (w, σ 53) i).1 ∧ s 53 = (zfold (ztx a) (w, σ 53) i).2) ?_ ?_ 5 (by omega) ⟨rfl, rfl, fun _ _ _ => rfl, fun _ _ => rfl, hw, rfl⟩
  · rintro i hi s x y ⟨rfl, rfl, hf, hj, h1, h2⟩ rec kk
    obtain ⟨e1, e2⟩ := zsh4_s i hi
    have b1 := ztx_1 x (w, σ 53) i
    have hstep : zfold (ztx x) (w, σ 53) (i + 1) = ztx x (zfold (ztx x) (w, σ 53) i) i := rfl
    generalize zfold (ztx x) (w, σ 53) i = st at h1 h2 b1 hstep
    rw [f_X8_append_78, if_neg e2, e1]
    have hps := p_addSign (s := s) (x := zby x i) (hok i hi) h1 (fun h0 => by
      have := zcnt_in (p := zNz x) (i := i) (by unfold zNz; rw [decide_eq_false h0]; rfl) hi
      have b1' : st.1 = w + zcnt (zNz x) i := b1
      omega)
    show zQac σ x w (zb (f_X1_addSign s (zby x i)) _)
    rw [hps, zb_s]
    by_cases h0 : zby x i = 0
    · have hst : ztx x st i = st := if_pos h0
      rw [hst] at hstep
      rw [if_pos h0]
      exact kk _ _ _ ⟨rfl, rfl, hf, hj, by rw [hstep]; exact h1, by rw [hstep]; exact h2⟩
    · have hst : ztx x st i = (st.1 + 1, upd st.2 st.1 (zby x i)) := if_neg h0
      rw [hst] at hstep
      rw [if_neg h0]
      refine kk _ _ _ ⟨rfl, rfl, fun p p1 p2 => by rw [zp_n _ _ _ p1, zp_n _ _ _ p2]; exact hf p p1 p2, fun j hj2 => by rw [zp_o _ _ hj2, zp_n _ _ _ (by decide)]; exact hj j hj2, by rw [hstep, zp_e], ?_⟩
      rw [hstep, zp_n _ _ _ (by decide), zp_k, h2]
  · rintro s x y ⟨rfl, rfl, hf, hj, h1, h2⟩ rec
    rw [f_X8_append_78, if_pos (show zsh4 4 < 0 by decide), h1]
    exact ⟨s, rfl, hf, hj, h1, h2⟩
def zQam (τ : zs) (a : Int32) (w : Nat) (x : Option (Int32 × zs)) : Prop := ∃ s : zs, x = some (nI (zfold (ztx a) (w, τ 68) 4).1, s) ∧ (∀ p, p ≠ 65 → p ≠ 68 → s p = τ p) ∧ (∀ j, j ≠ 5 → s 65 j = τ 65 j) ∧ s 65 5 = nI (zfold (ztx a) (w, τ 68) 4).1 ∧ s 68 = (zfold (ztx a) (w, τ 68) 4).2
theorem m_app110 {a : Int32} {w : Nat} (hw : τ 65 5 = nI w) (hb : w + zcnt (zNz a) 4 ≤ 40) : zQam τ a w (zlp2 f_X9_append_110 5 τ a 24) := by
  refine zli2 (Q := zQam τ a w) 4 (fun i s x y => x = a ∧ y = zsh4 i ∧ (∀ p, p ≠ 65 → p ≠ 68 → s p = τ p) ∧ (∀ j, j ≠ 5 → s 65 j = τ 65 j) ∧ s 65 5 = nI (zfold (ztx a) (w, τ 68) i).1 ∧ s 68 = (zfold (ztx a) (w, τ 68) i).2) ?_ ?_ 5 (by omega) ⟨rfl, rfl, fun _ _ _ => rfl, fun _ _ => rfl, hw, rfl⟩
  · rintro i hi s x y ⟨rfl, rfl, hf, hj, h1, h2⟩ rec kk
    obtain ⟨e1, e2⟩ := zsh4_s i hi
    have b1 := ztx_1 x (w, τ 68) i
    have hstep : zfold (ztx x) (w, τ 68) (i + 1) = ztx x (zfold (ztx x) (w, τ 68) i) i := rfl
    generalize zfold (ztx x) (w, τ 68) i = st at h1 h2 b1 hstep
    rw [f_X9_append_110, if_neg e2, e1]
    show zQam τ x w (if zby x i = 0 then rec s x (zsh4 (i + 1)) else zg (zin (s 65 5) 40) (rec (zp (zp s 68 (s 65 5).toNatClampNeg (zby x i)) 65 5 ((zp s 68 (s 65 5).toNatClampNeg (zby x i)) 65 5 + 1)) x (zsh4 (i + 1))))
    by_cases h0 : zby x i = 0
    · have hst : ztx x st i = st := if_pos h0
      rw [hst] at hstep
      rw [if_pos h0]
      exact kk _ _ _ ⟨rfl, rfl, hf, hj, by rw [hstep]; exact h1, by rw [hstep]; exact h2⟩
    · have hst : ztx x st i = (st.1 + 1, upd st.2 st.1 (zby x i)) := if_neg h0
      rw [hst] at hstep
      have hlt := zcnt_in (p := zNz x) (i := i) (by unfold zNz; rw [decide_eq_false h0]; rfl) hi
      have b1' : st.1 = w + zcnt (zNz x) i := b1
      rw [if_neg h0, h1, zg_in _ (by omega) (by omega), zcl (by omega), zp_n _ _ _ (by decide), h1, nI_1]
      refine kk _ _ _ ⟨rfl, rfl, fun p p1 p2 => by rw [zp_n _ _ _ p1, zp_n _ _ _ p2]; exact hf p p1 p2, fun j hj2 => by rw [zp_o _ _ hj2, zp_n _ _ _ (by decide)]; exact hj j hj2, by rw [hstep, zp_e], ?_⟩
      rw [hstep, zp_n _ _ _ (by decide), zp_k, h2]
  · rintro s x y ⟨rfl, rfl, hf, hj, h1, h2⟩ rec
    rw [f_X9_append_110, if_pos (show zsh4 4 < 0 by decide), h1]
    exact ⟨s, rfl, hf, hj, h1, h2⟩
theorem p_textSign (s : zs) (x : Int32) (h0 : x ≠ 0) : f_X8_isTextSign s x = some (bI (zbok x), s) := by
  rw [f_X8_isTextSign]
  unfold zbok
  rw [decide_eq_false h0, Bool.false_or]
  by_cases h1 : x < 33
  · rw [if_pos h1, decide_eq_true h1]; rfl
  · rw [if_neg h1, decide_eq_false h1]
    by_cases h2 : 126 < x
    · rw [if_pos h2, decide_eq_true h2]; rfl
    · rw [if_neg h2, decide_eq_false h2]; rfl
theorem p_app5 (a : Int32) (K5 : zs → Int32 → Int32 → Int32 → Option zO) (i c : Nat) (hi : i < 4) : f_X8_append_5 K5 σ a (nI c) (zsh4 i) = if zbok (zby a i) then K5 σ a (nI (if zNz a i then c + 1 else c)) (zsh4 (i + 1)) else some (2, 0, σ) := by
  obtain ⟨e1, e2⟩ := zsh4_s i hi
  rw [f_X8_append_5, if_neg e2]
  show (if zby a i = 0 then f_X8_append_36 K5 σ a (nI c) (zsh4 i) (zby a i) 1 else zb (f_X8_isTextSign σ (zby a i)) (fun r11 σ12 => if r11 = 0 then f_X8_append_36 K5 σ12 a (nI c) (zsh4 i) (zby a i) 0 else f_X8_append_36 K5 σ12 a (nI c) (zsh4 i) (zby a i) 1)) = _
  by_cases h0 : zby a i = 0
  · rw [if_pos h0, f_X8_append_36, f_X8_needArgument, if_neg (by decide), zx_0, if_pos h0, e1]
    rw [if_pos (by unfold zbok; rw [decide_eq_true h0]; rfl), if_neg (by unfold zNz; rw [decide_eq_true h0]; decide)]
  · rw [if_neg h0, p_textSign _ _ h0, zb_s, bI_0]
    have hz : zNz a i = true := by unfold zNz; rw [decide_eq_false h0]; rfl
    cases zbok (zby a i) with
    | false => rw [if_neg (by decide), if_neg (by decide)]; rfl
    | true => rw [if_pos rfl, if_pos rfl, f_X8_append_36, f_X8_needArgument, if_neg (by decide), zx_0, if_neg h0, e1, hz, if_pos rfl, nI_1]
theorem m_app8 (a : Int32) (K8 : zs → Int32 → Int32 → Int32 → Int32 → Option (Int32 × zs)) (i c : Nat) (f : Bool) (hi : i < 4) : f_X9_append_8 K8 τ a (nI c) (bI f) (zsh4 i) = K8 τ a (nI (if zNz a i then c + 1 else c)) (bI (f && zbok (zby a i))) (zsh4 (i + 1)) := by
  obtain ⟨e1, e2⟩ := zsh4_s i hi
  rw [f_X9_append_8, if_neg e2]
  show (if zby a i = 0 then f_X9_append_34 K8 τ a (bI f) (zsh4 i) (zby a i) 0 (nI c) else f_X9_append_34 K8 τ a (bI f) (zsh4 i) (zby a i) 1 (nI c)) = _
  by_cases h0 : zby a i = 0
  · have hk : zbok (zby a i) = true := by unfold zbok; rw [decide_eq_true h0]; rfl
    rw [if_pos h0, f_X9_append_34, hk, Bool.and_true, if_neg (show ¬ zNz a i = true by unfold zNz; rw [decide_eq_true h0]; decide), e1, if_pos h0, show nI c + 0 = nI c from by simp]
    cases f <;> rfl
  · have hz : zNz a i = true := by unfold zNz; rw [decide_eq_false h0]; rfl
    rw [if_neg h0, f_X9_append_34, if_pos hz, e1, if_neg h0, nI_1]
    cases f with
    | false => rfl
    | true =>
      rw [if_neg (show ¬ bI true = 0 by decide), Bool.true_and]
      unfold zbok
      rw [decide_eq_false h0, Bool.false_or]
      by_cases h1 : zby a i < 33
      · rw [m_isIn_out _ (Or.inl h1), zb_s, if_pos rfl, decide_eq_true h1]; rfl
      · by_cases h2 : 126 < zby a i
        · rw [m_isIn_out _ (Or.inr h2), zb_s, if_pos rfl, decide_eq_true h2, Bool.not_true, Bool.and_false]; rfl
        · rw [m_isIn_in _ (zle_nlt.mpr h1) (zle_nlt.mpr h2), zb_s, if_neg (by decide), decide_eq_false h1, decide_eq_false h2]; rfl
/-- texts written alike -/
theorem ztx_R (a : Int32) (hok : ∀ i, i < 4 → zbok (zby a i) = true) {w : Nat} {f g : Nat → Int32} (h : ∀ i, i < w → g i = f i ∧ zr (f i) 127 ∧ 33 ≤ zN (f i)) : ∀ k, k ≤ 4 → (zfold (ztx a) (w, g) k).1 = (zfold (ztx a) (w, f) k).1 ∧ ∀ i, i < (zfold (ztx a) (w, f) k).1 → (zfold (ztx a) (w, g) k).2 i = (zfold (ztx a) (w, f) k).2 i ∧ zr ((zfold (ztx a) (w, f) k).2 i) 127 ∧ 33 ≤ zN ((zfold (ztx a) (w, f) k).2 i)
  | 0, _ => ⟨rfl, h⟩
  | k + 1, hk => by
    obtain ⟨ih1, ih2⟩ := ztx_R a hok h k (by omega)
    have s1 : zfold (ztx a) (w, g) (k + 1) = ztx a (zfold (ztx a) (w, g) k) k := rfl
    have s2 : zfold (ztx a) (w, f) (k + 1) = ztx a (zfold (ztx a) (w, f) k) k := rfl
    generalize zfold (ztx a) (w, g) k = st at ih1 ih2 s1
    generalize zfold (ztx a) (w, f) k = st' at ih1 ih2 s2
    rw [s1, s2]
    unfold ztx
    by_cases h0 : zby a k = 0
    · rw [if_pos h0, if_pos h0]; exact ⟨ih1, ih2⟩
    · rw [if_neg h0, if_neg h0]
      obtain ⟨v, v1, v2, v3⟩ := zbok_v (hok k (by omega)) h0
      refine ⟨by show st.1 + 1 = st'.1 + 1; rw [ih1], fun i hi => ?_⟩
      show upd st.2 st.1 (zby a k) i = upd st'.2 st'.1 (zby a k) i ∧ zr (upd st'.2 st'.1 (zby a k) i) 127 ∧ 33 ≤ zN (upd st'.2 st'.1 (zby a k) i)
      rw [ih1]
      have hi' : i < st'.1 + 1 := hi
      by_cases e : i = st'.1
      · subst e
        rw [upd_s, upd_s, v3]
        exact ⟨rfl, zr_i v1 (by omega), by rw [zN_nI (by omega)]; exact v2⟩
      · rw [upd_n _ _ e, upd_n _ _ e]; exact ih2 i (by omega)
theorem k_append (R : RA σ K) (a : Int32) : zok (f_L_append_0_75 σ a) (fun τ => f_X9_append τ a) (K + 1) := by
  have R0 := R
  obtain ⟨⟨n, hS⟩, a2, a3, ⟨⟨w, hw, ⟨w1, w2⟩, hx⟩, ep⟩, a5⟩ := R
  -- the reference's first loop
  have md : ∀ τ : zs, f_X9_append τ a = f_X9_append_8 (fun _ _ _ _ _ => none) τ a (nI (zcnt (zNz a) 4)) (bI (!zany (fun i => !zbok (zby a i)) 4)) (-8) := by
    intro τ
    rw [f_X9_append]
    refine zlr4 4 (fun _ => τ) (fun _ => a) (fun i => nI (zcnt (zNz a) i)) (fun i => bI (!zany (fun i => !zbok (zby a i)) i)) zsh4 (fun i hi rec => ?_) (fun rec => ?_) 5 (by omega)
    · rw [m_app8 a rec i _ _ hi, zcnt, zany, Bool.not_or, Bool.not_not]
    · rw [f_X9_append_8, f_X9_append_8, if_pos (show zsh4 4 < 0 by decide), if_pos (show (-8 : Int32) < 0 by decide)]
  rcases zfirst (fun i => !zbok (zby a i)) 4 with ⟨k, hk, hp, hq⟩ | hq
  · have hz : zany (fun i => !zbok (zby a i)) 4 = true := (zany_iff _ _).mpr ⟨k, hk, hp⟩
    refine zokq_e 1 1 R0 ⟨σ, 0, ?_, zQx_refl σ⟩ (fun _ => rfl) (by decide) (fun τ hv => ⟨zp τ 65 3 1, 0, ?_, zp_e _ _ _ _, zMx_3 _ _⟩)
    · rw [f_X8_append]
      refine zlr3 k (fun _ => σ) (fun _ => a) (fun i => nI (zcnt (zNz a) i)) zsh4 (fun i hi rec => ?_) (fun rec => ?_) 5 (by omega)
      · have := hq i hi
        rw [p_app5 a rec i _ (by omega), if_pos (by simpa using this), zcnt]
      · rw [p_app5 a rec k _ hk, if_neg (by simpa using hp)]
    · show f_X9_append τ a = _
      rw [md τ, hz, f_X9_append_8, if_pos (by decide), if_pos (by decide), f_X9_append_94, zp_e, if_neg (by decide)]
  · have hok : ∀ i, i < 4 → zbok (zby a i) = true := fun i hi => by simpa using hq i hi
    have hz : zany (fun i => !zbok (zby a i)) 4 = false := zany_no.mpr hq
    have hc4 := zcnt_le (zNz a) 4
    have cl : f_X8_append σ a = f_X8_append_5 (fun _ _ _ _ => none) σ a (nI (zcnt (zNz a) 4)) (-8) := by
      rw [f_X8_append]
      refine zlr3 4 (fun _ => σ) (fun _ => a) (fun i => nI (zcnt (zNz a) i)) zsh4 (fun i hi rec => ?_) (fun rec => ?_) 5 (by omega)
      · rw [p_app5 a rec i _ (by omega), if_pos (hok i hi), zcnt]
      · rw [f_X8_append_5, f_X8_append_5, if_pos (show zsh4 4 < 0 by decide), if_pos (show (-8 : Int32) < 0 by decide)]
    by_cases hb : w + zcnt (zNz a) 4 ≤ 40
    · obtain ⟨s, g1, g2, g3, g4, g5⟩ := p_app78 (σ := σ) hok w1 hb
      obtain ⟨hR1, hR2⟩ := ztx_R a hok (f := σ 53) (g := σ 68) hx 4 (Nat.le_refl 4)
      have h1 := ztx_1 a (w, σ 53) 4
      have h1' : (zfold (ztx a) (w, σ 53) 4).1 ≤ 40 := by rw [h1]; exact hb
      generalize hX : zfold (ztx a) (w, σ 53) 4 = X at g1 g4 g5 hR1 hR2 h1'
      have t65 : (zp (zp s 75 0 (nI X.1)) 65 3 0) 65 5 = nI w := by rw [zp_o _ _ (by decide), zp_n _ _ _ (by decide), g2 65 (by decide) (by decide)]; exact w2
      obtain ⟨s2, k1, k2, k3, k4, k5⟩ := m_app110 (τ := zp (zp s 75 0 (nI X.1)) 65 3 0) (a := a) t65 hb
      have t68 : (zp (zp s 75 0 (nI X.1)) 65 3 0) 68 = σ 68 := by rw [zp_n _ _ _ (by decide), zp_n _ _ _ (by decide), g2 68 (by decide) (by decide)]
      rw [t68] at k1 k4 k5
      rw [hR1] at k1 k4
      have F : ∀ p, p ≠ 52 → p ≠ 53 → p ≠ 65 → p ≠ 68 → p ≠ 75 → s2 p = σ p := fun p p1 p2 p3 p4 p5 => by rw [k2 p p3 p4, zp_n _ _ _ p3, zp_n _ _ _ p5, g2 p p1 p2]
      have F65 : ∀ j, j ≠ 3 → j ≠ 5 → s2 65 j = σ 65 j := fun j j1 j2 => by rw [k3 j j2, zp_o _ _ j1, zp_n _ _ _ (by decide), g2 65 (by decide) (by decide)]
      have F52 : ∀ j, j ≠ 1 → s2 52 j = σ 52 j := fun j hj => by rw [k2 52 (by decide) (by decide), zp_n _ _ _ (by decide), zp_n _ _ _ (by decide)]; exact g3 j hj
      have F53 : s2 53 = X.2 := by rw [k2 53 (by decide) (by decide), zp_n _ _ _ (by decide), zp_n _ _ _ (by decide)]; exact g5
      refine zok_0 (r := nI X.1) (σ1 := s) (σ2 := s2) ?_ ?_ ?_ ?_ ⟨⟨n, ?_⟩, ?_, ?_, ⟨⟨X.1, h1', ⟨?_, k4⟩, fun i hi => ?_⟩, ?_⟩, ?_⟩
      · rw [cl, f_X8_append_5, if_pos (by decide), w1, nI_add, if_neg (by rw [zk40, znI_lt (by omega) (by omega)]; omega), f_X8_append_72, f_X8_needState, if_neg (by decide), zx_0, g1]
      · show f_X9_append _ _ = _
        rw [md, hz, f_X9_append_8, if_pos (by decide), if_neg (by decide)]
        have e5 : (zp s 75 0 (nI X.1)) 65 5 = nI w := by rw [zp_n _ _ _ (by decide), g2 65 (by decide) (by decide)]; exact w2
        rw [e5, nI_add, if_pos (by rw [zk40, znI_le (by omega) (by omega)]; omega), f_X9_append_94, zp_e, if_pos rfl]
        exact k1
      · rw [k3 3 (by decide), zp_e]
      · rw [k2 75 (by decide) (by decide), zp_n _ _ _ (by decide)]
      · rw [F 66 (by decide) (by decide) (by decide) (by decide) (by decide)]
        exact RS_mono (Nat.le_succ K) (RS_cong (fun p hp => F p (by omega) (by omega) (by omega) (by omega) (by omega)) hS)
      · exact RKp_mono (Nat.le_succ K) (RKp_cong ⟨fun p hp => F p (by omega) (by omega) (by omega) (by omega) (by omega), F65 2 (by decide) (by decide)⟩ a2)
      · simp only [RRp, F 49 (by decide) (by decide) (by decide) (by decide) (by decide), F 50 (by decide) (by decide) (by decide) (by decide) (by decide), F 51 (by decide) (by decide) (by decide) (by decide) (by decide), F 70 (by decide) (by decide) (by decide) (by decide) (by decide), F 71 (by decide) (by decide) (by decide) (by decide) (by decide), F65 10 (by decide) (by decide)] at a3 ⊢
        exact a3
      · rw [k2 52 (by decide) (by decide), zp_n _ _ _ (by decide), zp_n _ _ _ (by decide)]; exact g4
      · rw [F53, k5]; exact hR2 i hi
      · rw [F65 6 (by decide) (by decide), F52 2 (by decide)]; exact ep
      · simp only [RSB, F 63 (by decide) (by decide) (by decide) (by decide) (by decide)] at a5 ⊢
        exact a5
    · refine zokq_e 2 2 R0 ⟨σ, 0, ?_, zQx_refl σ⟩ (fun _ => rfl) (by decide) (fun τ hv => ⟨zp τ 65 3 2, 0, ?_, zp_e _ _ _ _, zMx_3 _ _⟩)
      · rw [cl, f_X8_append_5, if_pos (by decide), w1, nI_add, if_pos (by rw [zk40, znI_lt (by omega) (by omega)]; omega), f_X8_append_72, f_X8_needState, if_pos rfl]; rfl
      · show f_X9_append τ a = _
        rw [md τ, hz, f_X9_append_8, if_pos (by decide), if_neg (by decide), hv 65 (by decide) (by decide), w2, nI_add, if_neg (by rw [zk40, znI_le (by omega) (by omega)]; omega), f_X9_append_94, zp_e, if_neg (by decide)]
end PV
