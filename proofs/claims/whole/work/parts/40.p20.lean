/-! request -/
theorem zmin20 {ne : Nat} (h : ne ≤ 20) : (if (20 : Int32) < nI ne + (1 : Int32) then (20 : Int32) else nI ne + (1 : Int32)) = nI (min (ne + 1) 20) := by
  have e : ∀ k, k ≤ 20 → (if (20 : Int32) < nI k + (1 : Int32) then (20 : Int32) else nI k + (1 : Int32)) = nI (min (k + 1) 20) := by decide +kernel
  exact e ne h
theorem zmin20' {ne : Nat} (h : ne ≤ 20) : (if nI ne + (1 : Int32) < (20 : Int32) then nI ne + (1 : Int32) else (20 : Int32)) = nI (min (ne + 1) 20) := by
  have e : ∀ k, k ≤ 20 → (if nI k + (1 : Int32) < (20 : Int32) then nI k + (1 : Int32) else (20 : Int32)) = nI (min (k + 1) 20) := by decide +kernel
  exact e ne h
def zent (s t : Nat) (b : Bool) : Nat := 1000 * s + 10 * t + (if b then 1 else 0)
theorem zent_e (s t : Nat) (b : Bool) : (1000 : Int32) * nI s + (10 : Int32) * nI t + bI b = nI (zent s t b) := by
  rw [zk1000, zk10, nI_mul, nI_mul, nI_add]
  cases b with
  | false => show nI _ + nI 0 = _; rw [nI_add]; rfl
  | true => show nI _ + nI 1 = _; rw [nI_add]; rfl
theorem p_enter {σ : zs} {ne : Nat} (hne : ne ≤ 20) (h1 : σ 20 1 = nI ne) (s t : Nat) (b : Bool) : ∃ σ' : zs, f_X2_enter σ (nI s) (nI t) (bI b) = some (0, σ') ∧ (∀ p, p ≠ 20 → p ≠ 21 → σ' p = σ p) ∧ σ' 20 1 = nI (min (ne + 1) 20) ∧ σ' 20 2 = (if b then σ 20 2 + 1 else σ 20 2) ∧ σ' 20 3 = (if b then σ 20 3 else σ 20 3 + 1) ∧ σ' 21 0 = nI (zent s t b) ∧ ∀ k, k + 1 < 20 → σ' 21 (k + 1) = σ 21 k := by
  have hz : zcp (0 : Int32) (1 : Int32) (19 : Int32) 20 20 = true := by decide
  have hsh : ∀ k, k + 1 < 20 → va_cpy (σ 21) (σ 21) (0 : Int32).toNatClampNeg (1 : Int32).toNatClampNeg (19 : Int32).toNatClampNeg (k + 1) = σ 21 k := by
    intro k hk
    rw [show (0 : Int32).toNatClampNeg = 0 from rfl, show (1 : Int32).toNatClampNeg = 1 from rfl, show (19 : Int32).toNatClampNeg = 19 from rfl]
    simp only [va_cpy]
    rw [if_pos ⟨by omega, by omega⟩]
    congr 1; omega
  rw [f_X2_enter, hz, zg_t]
  generalize va_cpy (σ 21) (σ 21) (0 : Int32).toNatClampNeg (1 : Int32).toNatClampNeg (19 : Int32).toNatClampNeg = f at hsh
  have z0 : zin (0 : Int32) 20 = true := by decide
  have e20 : (zR σ 21 f) 20 = σ 20 := zR_ne _ _ (by decide)
  cases b with
  | false =>
    rw [if_pos (show bI false = 0 from rfl), f_X2_enter_39, z0, zg_t, if_pos (show bI false = 0 from rfl)]
    simp only [zp_n _ _ _ (show (20 : Nat) ≠ 21 by decide), e20, h1, zmin20 hne, zcl0]
    refine ⟨_, rfl, fun p p1 p2 => ?_, ?_, ?_, ?_, ?_, fun k hk => ?_⟩
    · rw [zp_n _ _ _ p1, zp_n _ _ _ p1, zp_n _ _ _ p2, zR_ne _ _ p2]
    · rw [zp_o _ _ (by decide), zp_e]
    · rw [zp_o _ _ (by decide), zp_o _ _ (by decide), zp_n _ _ _ (by decide), e20]; rfl
    · rw [zp_e, zp_o _ _ (by decide), zp_n _ _ _ (by decide), e20]; rfl
    · rw [zp_n _ _ _ (by decide), zp_n _ _ _ (by decide), zp_e]; exact zent_e s t false
    · rw [zp_n _ _ _ (by decide), zp_n _ _ _ (by decide), zp_o _ _ (by omega), zR_self]; exact hsh k hk
  | true =>
    rw [if_neg (show ¬ bI true = 0 by decide), f_X2_enter_39, z0, zg_t, if_neg (show ¬ bI true = 0 by decide)]
    simp only [zp_n _ _ _ (show (20 : Nat) ≠ 21 by decide), e20, h1, zmin20 hne, zcl0]
    refine ⟨_, rfl, fun p p1 p2 => ?_, ?_, ?_, ?_, ?_, fun k hk => ?_⟩
    · rw [zp_n _ _ _ p1, zp_n _ _ _ p1, zp_n _ _ _ p2, zR_ne _ _ p2]
    · rw [zp_o _ _ (by decide), zp_e]
    · rw [zp_e, zp_o _ _ (by decide), zp_n _ _ _ (by decide), e20]; rfl
    · rw [zp_o _ _ (by decide), zp_o _ _ (by decide), zp_n _ _ _ (by decide), e20]; rfl
    · rw [zp_n _ _ _ (by decide), zp_n _ _ _ (by decide), zp_e]; exact zent_e s t true
    · rw [zp_n _ _ _ (by decide), zp_n _ _ _ (by decide), zp_o _ _ (by omega), zR_self]; exact hsh k hk
def zQlg (τ : zs) (ne : Nat) (v : Int32) (x : Option (Int32 × zs)) : Prop := ∃ τ' : zs, x = some (0, τ') ∧ (∀ p, p ≠ 66 → τ' p = τ p) ∧ τ' 66 6 = nI (min (ne + 1) 20) ∧ τ' 66 7 = v ∧ (∀ k, k + 1 < 20 → τ' 66 (7 + (k + 1)) = τ 66 (7 + k)) ∧ ∀ j, (j < 6 ∨ 26 < j) → τ' 66 j = τ 66 j
theorem m_logs {τ : zs} {ne : Nat} (hne : ne ≤ 20) (h6 : τ 66 6 = nI ne) (v : Int32) : zQlg τ ne v (f_X9_logs τ v) := by
  rw [f_X9_logs]
  refine zli2 (Q := zQlg τ ne v) 19 (fun i s a b => a = v ∧ b = nI (19 - i) ∧ (∀ p, p ≠ 66 → s p = τ p) ∧ ∀ j, s 66 j = if 7 + (19 - i) < j ∧ j ≤ 26 then τ 66 (j - 1) else τ 66 j) ?_ ?_ 1000 (by omega) ⟨rfl, rfl, fun _ _ => rfl, fun j => by rw [if_neg (by omega)]⟩
  · rintro i hi s a b ⟨rfl, rfl, hf, hv⟩ rec kk
    obtain ⟨d, hd⟩ : ∃ d, 19 - i = d + 1 := ⟨19 - i - 1, by omega⟩
    rw [hd] at hv ⊢
    have e1 : (7 : Int32) + nI (d + 1) - 1 = nI (7 + d) := by
      rw [zk7, nI_add, show 7 + (d + 1) = (7 + d) + 1 by omega]; exact nI_pred _
    rw [f_X9_logs_3, if_neg (by rw [zi0, znI_le (by omega) (by omega)]; omega), e1]
    simp (disch := omega) only [zk7, nI_add, zg_in, zcl]
    rw [pk_m1]
    refine kk _ _ _ ⟨rfl, by rw [show 19 - (i + 1) = d by omega], fun p hp => by rw [zp_n _ _ _ hp]; exact hf p hp, fun j => ?_⟩
    rw [show 19 - (i + 1) = d by omega]
    by_cases e : j = 7 + (d + 1)
    · subst e
      rw [zp_e, hv (7 + d), if_neg (by omega), if_pos (by omega)]
      congr 1
    · rw [zp_o _ _ e, hv j]
      by_cases w : 7 + d < j ∧ j ≤ 26
      · rw [if_pos w, if_pos (by omega)]
      · rw [if_neg w, if_neg (by omega)]
  · rintro s a b ⟨rfl, rfl, hf, hv⟩ rec
    have hv' : ∀ j, s 66 j = if 7 < j ∧ j ≤ 26 then τ 66 (j - 1) else τ 66 j := hv
    have h66 : s 66 6 = nI ne := by rw [hv' 6, if_neg (by omega)]; exact h6
    rw [f_X9_logs_3, if_pos (by decide), zG7, zG6, zG6, zC7, zC6, zp_o _ _ (by decide), h66, zmin20' hne]
    refine ⟨_, rfl, fun p hp => by rw [zp_n _ _ _ hp, zp_n _ _ _ hp]; exact hf p hp, zp_e _ _ _ _, by rw [zp_o _ _ (by decide), zp_e], fun k hk => ?_, fun j hj => ?_⟩
    · rw [zp_o _ _ (by omega), zp_o _ _ (by omega), hv', if_pos (by omega)]; congr 1
    · rw [zp_o _ _ (by omega), zp_o _ _ (by omega), hv', if_neg (by omega)]
section PT
variable {σ τ c : zs} {m : Nat → Int32} {K n : Nat}
/-- a place of a chain is not met before -/
theorem zch_new (h : ∀ t, t < n → RTk c m K t) {t i : Nat} (ht : t < n) (hi : i < zln c t) : zany (fun k => zch c t k == zch c t i) i = false := by
  rw [zany_no]
  intro k hk
  have a := (zpre h t ht k (by omega)).2.1
  have b := (zpre h t ht i hi).2.1
  refine beq_eq_false_iff_ne.mpr (fun e => ?_)
  rw [e, b] at a; omega
theorem zch_new' (h : ∀ t, t < n → RTk c m K t) {t i : Nat} (ht : t < n) (hi : i < zln c t) : zany (fun k => zch c t (zln c t - 1 - k) == zch c t (zln c t - 1 - i)) i = false := by
  rw [zany_no]
  intro k hk
  have a := (zpre h t ht (zln c t - 1 - k) (by omega)).2.1
  have b := (zpre h t ht (zln c t - 1 - i) (by omega)).2.1
  refine beq_eq_false_iff_ne.mpr (fun e => ?_)
  rw [e, b] at a; omega
def zQuc (σ : zs) (n t : Nat) (x : Option (Int32 × zs)) : Prop := ∃ σ' : zs, x = some (0, σ') ∧ (∀ p, p ≠ 7 → σ' p = σ p) ∧ ∀ u, u < n → σ' 7 u = if zbl σ t u then σ 7 u + 1 else σ 7 u
theorem p_useChain (hn : n ≤ 28) (h : ∀ t, t < n → RTk σ m K t) {t : Nat} (ht : t < n) : zQuc σ n t (f_X7_useChain σ (nI t)) := by
  obtain ⟨hl, hl1, hl7⟩ := zln_eq (h t ht)
  rw [f_X7_useChain, zi0]
  refine zli2 (Q := zQuc σ n t) (zln σ t) (fun i s a b => a = nI t ∧ b = nI i ∧ (∀ p, p ≠ 7 → s p = σ p) ∧ ∀ u, u < n → s 7 u = if zany (fun k => zch σ t k == u) i then σ 7 u + 1 else σ 7 u) ?_ ?_ 1000 (by omega) ⟨rfl, rfl, fun _ _ => rfl, fun _ _ => rfl⟩
  · rintro i hi s a b ⟨rfl, rfl, hf, hv⟩ rec kk
    obtain ⟨e1, e2⟩ := zch_lt (h t ht) hi
    have hno := zch_new h ht hi
    rw [f_X7_useChain_2]
    simp (disch := omega) only [hf 4 (by decide), hf 5 (by decide), zk7, nI_mul, nI_add, zg_in, zcl, hl, znI_le, e1, nI_1]
    rw [if_neg (by omega)]
    refine kk _ _ _ ⟨rfl, rfl, fun p hp => by rw [zp_n _ _ _ hp]; exact hf p hp, fun u hu => ?_⟩
    rw [zany]
    by_cases w : u = zch σ t i
    · subst w
      rw [zp_e, hv _ hu, hno]; simp
    · rw [zp_o _ _ w, hv u hu, beq_eq_false_iff_ne.mpr (Ne.symm w), Bool.or_false]
  · rintro s a b ⟨rfl, rfl, hf, hv⟩ rec
    rw [f_X7_useChain_2]
    simp (disch := omega) only [hf 4 (by decide), zg_in, zcl, hl, znI_le]
    rw [if_pos (Nat.le_refl _)]
    refine ⟨s, rfl, hf, fun u hu => ?_⟩
    rw [hv u hu, zany_bl h ht hu]
theorem p_act {o : Nat} (ho : o < 12) {r : Int32} (hr : r = 1 ∨ r = 2 ∨ r = 8) (a : Int32) : ∃ σ' : zs, f_X6_act σ (nI o) r a = some ((if r = 8 then σ 23 o + 1 else σ 22 o), σ') ∧ (∀ p, p ≠ 22 → p ≠ 23 → σ' p = σ p) ∧ (∀ i, σ' 22 i = if i = o ∧ r = 2 then a else σ 22 i) ∧ ∀ i, σ' 23 i = if i = o ∧ r = 8 then σ 23 i + 1 else σ 23 i := by
  rw [f_X6_act]
  simp (disch := omega) only [zg_in, zcl]
  rcases hr with rfl | rfl | rfl
  · rw [if_neg (by decide), if_neg (by decide), if_neg (by decide)]
    exact ⟨σ, rfl, fun _ _ _ => rfl, fun i => by rw [if_neg (fun w => absurd w.2 (by decide))], fun i => by rw [if_neg (fun w => absurd w.2 (by decide))]⟩
  · rw [if_neg (by decide), if_pos rfl, if_neg (by decide)]
    refine ⟨_, rfl, fun p p1 p2 => zp_n _ _ _ p1, fun i => ?_, fun i => ?_⟩
    · rw [zp_rd]; simp
    · rw [zp_n _ _ _ (by decide), if_neg (fun w => absurd w.2 (by decide))]
  · rw [if_pos rfl, if_pos rfl, zp_e]
    refine ⟨_, rfl, fun p p1 p2 => zp_n _ _ _ p2, fun i => ?_, fun i => ?_⟩
    · rw [zp_n _ _ _ (by decide), if_neg (fun w => absurd w.2 (by decide))]
    · rw [zp_rd]
      by_cases w : i = o
      · subst w; simp
      · simp [w]
def zQr8 (τ : zs) (ne s t : Nat) (b : Bool) (τ9 : zs) : Prop := (∀ p, p ≠ 66 → τ9 p = τ p) ∧ τ9 66 6 = nI (min (ne + 1) 20) ∧ τ9 66 7 = nI (zent s t b) ∧ (∀ k, k + 1 < 20 → τ9 66 (7 + (k + 1)) = τ 66 (7 + k)) ∧ τ9 66 4 = (if b then τ 66 4 + 1 else τ 66 4) ∧ τ9 66 5 = (if b then τ 66 5 else τ 66 5 + 1) ∧ ∀ j, (j < 4 ∨ 26 < j) → τ9 66 j = τ 66 j
theorem m_req85 {ne : Nat} (hne : ne ≤ 20) (h6 : τ 66 6 = nI ne) (s t : Nat) (r a : Int32) (b : Bool) : ∃ τ9 : zs, f_X9_request_85 τ (nI t) r a (bI b) (bI b) ((1000 : Int32) * nI s + (10 : Int32) * nI t) = f_X9_request_119 τ9 (nI t) r a (bI b) (if b then 0 else 3) ∧ zQr8 τ ne s t b τ9 := by
  obtain ⟨τ8, g1, g2, g3, g4, g5, g6⟩ := m_logs hne h6 (nI (zent s t b))
  rw [f_X9_request_85, zent_e, g1, zb_s]
  cases b with
  | false =>
    rw [if_pos (show bI false = 0 from rfl), f_X9_request_103, zG5, zG5, zC5, if_pos (show bI false = 0 from rfl)]
    refine ⟨_, rfl, fun p hp => by rw [zp_n _ _ _ hp]; exact g2 p hp, ?_, ?_, fun k hk => ?_, ?_, ?_, fun j hj => ?_⟩
    · rw [zp_o _ _ (by decide)]; exact g3
    · rw [zp_o _ _ (by decide)]; exact g4
    · rw [zp_o _ _ (by omega)]; exact g5 k hk
    · rw [zp_o _ _ (by decide)]; exact g6 4 (by omega)
    · rw [zp_e, g6 5 (by omega)]; rfl
    · rw [zp_o _ _ (by omega)]; exact g6 j (by omega)
  | true =>
    rw [if_neg (show ¬ bI true = 0 by decide), f_X9_request_103, zG4, zG4, zC4, if_neg (show ¬ bI true = 0 by decide)]
    refine ⟨_, rfl, fun p hp => by rw [zp_n _ _ _ hp]; exact g2 p hp, ?_, ?_, fun k hk => ?_, ?_, ?_, fun j hj => ?_⟩
    · rw [zp_o _ _ (by decide)]; exact g3
    · rw [zp_o _ _ (by decide)]; exact g4
    · rw [zp_o _ _ (by omega)]; exact g5 k hk
    · rw [zp_e, g6 4 (by omega)]; rfl
    · rw [zp_o _ _ (by decide)]; exact g6 5 (by omega)
    · rw [zp_o _ _ (by omega)]; exact g6 j (by omega)
def zQru (τ c : zs) (n t o : Nat) (r a : Int32) (x : Option (Int32 × zs)) : Prop := ∃ τ' : zs, x = some ((if r = 8 then τ 66 (39 + o) + 1 else τ 66 (27 + o)), τ') ∧ (∀ p, p ≠ 66 → τ' p = τ p) ∧ (∀ i, i < 12 → τ' 66 (27 + i) = if i = o ∧ r = 2 then a else τ 66 (27 + i)) ∧ (∀ i, i < 12 → τ' 66 (39 + i) = if i = o ∧ r = 8 then τ 66 (39 + i) + 1 else τ 66 (39 + i)) ∧ (∀ u, u < n → τ' 66 (163 + u) = if zbl c t u then c 7 u + 1 else c 7 u) ∧ ∀ j, (j < 27 ∨ (51 ≤ j ∧ j < 163) ∨ 191 ≤ j) → τ' 66 j = τ 66 j
theorem m_req132 (hn : n ≤ 28) (h : ∀ t, t < n → RTk c (τ 66) K t) {t o : Nat} (ht : t < n) (ho : o < 12) (hto : c 3 t = nI o) {r : Int32} (hr : r = 1 ∨ r = 2 ∨ r = 8) (a : Int32) : zQru τ c n t o r a (zlp4 f_X9_request_132 1000 τ (nI t) r a (nI t)) := by
  obtain ⟨hl, hl1, hl7⟩ := zln_eq (h t ht)
  have h51 := (RT_obj (h t ht)).1
  refine zli4 (Q := zQru τ c n t o r a) (zln c t) (fun i s x y z w => x = nI t ∧ y = r ∧ z = a ∧ w = zup c t i ∧ (∀ p, p ≠ 66 → s p = τ p) ∧ (∀ j, ¬ (163 ≤ j ∧ j < 191) → s 66 j = τ 66 j) ∧ ∀ u, u < n → s 66 (163 + u) = if zany (fun k => zch c t (zln c t - 1 - k) == u) i then c 7 u + 1 else c 7 u) ?_ ?_ 1000 (by omega) ⟨rfl, rfl, rfl, (zup_0 (h t ht)).symm, fun _ _ => rfl, fun _ _ => rfl, fun u hu => (RT_use (h u hu)).1⟩
  · rintro i hi s x y z w ⟨rfl, rfl, rfl, rfl, hf, hv, hu⟩ rec kk
    obtain ⟨l, e1, e2, e3, e4, e5⟩ := z_road hn h ht hi
    have hno := zch_new' h ht hi
    rw [← e1] at hno
    rw [e4, f_X9_request_132, if_neg (zlt0 (by omega))]
    simp (disch := omega) only [zk163, zk79, nI_add, zg_in, zcl, zp_o]
    refine kk _ _ _ _ _ ⟨rfl, rfl, rfl, ?_, fun p hp => by rw [zp_n _ _ _ hp]; exact hf p hp, fun j hj => by rw [zp_o _ _ (by omega)]; exact hv j hj, fun u hu2 => ?_⟩
    · rw [hv (79 + l) (by omega)]; exact e5
    · rw [zany, ← e1]
      by_cases w : u = l
      · subst w
        rw [zp_e, hu _ hu2, hno]; simp
      · rw [zp_o _ _ (by omega), hu u hu2, beq_eq_false_iff_ne.mpr (Ne.symm w), Bool.or_false]
  · rintro s x y z w ⟨rfl, rfl, rfl, rfl, hf, hv, hu⟩ rec
    have e51 : s 66 (51 + t) = nI o := by rw [hv (51 + t) (by omega), h51, hto]
    have hu' : ∀ u, u < n → s 66 (163 + u) = if zbl c t u then c 7 u + 1 else c 7 u := by
      intro u hu2
      rw [hu u hu2, zany_rev (fun k => zch c t k == u), zany_bl h ht hu2]
    rw [zup_end, f_X9_request_132, if_pos (by decide)]
    simp (disch := omega) only [zk51, zk27, nI_add, zg_in, zcl, e51]
    rcases hr with rfl | rfl | rfl
    · rw [if_neg (by decide), f_X9_request_207, if_neg (by decide), hv (27 + o) (by omega)]
      refine ⟨s, by rw [if_neg (by decide)], hf, fun i hi => ?_, fun i hi => ?_, hu', fun j hj => hv j (by omega)⟩
      · rw [if_neg (fun w => absurd w.2 (by decide)), hv _ (by omega)]
      · rw [if_neg (fun w => absurd w.2 (by decide)), hv _ (by omega)]
    · rw [if_pos rfl, f_X9_request_207, if_neg (by decide), hv (27 + o) (by omega)]
      refine ⟨_, by rw [if_neg (by decide)], fun p hp => by rw [zp_n _ _ _ hp]; exact hf p hp, fun i hi => ?_, fun i hi => ?_, fun u hu2 => ?_, fun j hj => ?_⟩
      · by_cases w : i = o
        · subst w; rw [zp_e, if_pos ⟨rfl, rfl⟩]
        · rw [zp_o _ _ (by omega), if_neg (fun q => w q.1), hv _ (by omega)]
      · rw [zp_o _ _ (by omega), if_neg (fun w => absurd w.2 (by decide)), hv _ (by omega)]
      · rw [zp_o _ _ (by omega)]; exact hu' u hu2
      · rw [zp_o _ _ (by omega)]; exact hv j (by omega)
    · rw [if_neg (by decide), f_X9_request_207, if_pos rfl]
      simp (disch := omega) only [zk39, nI_add, zg_in, zcl, zp_e]
      rw [hv (39 + o) (by omega)]
      refine ⟨_, by rw [if_pos rfl], fun p hp => by rw [zp_n _ _ _ hp]; exact hf p hp, fun i hi => ?_, fun i hi => ?_, fun u hu2 => ?_, fun j hj => ?_⟩
      · rw [zp_o _ _ (by omega), if_neg (fun w => absurd w.2 (by decide)), hv _ (by omega)]
      · by_cases w : i = o
        · subst w; rw [zp_e, if_pos ⟨rfl, rfl⟩]
        · rw [zp_o _ _ (by omega), if_neg (fun q => w q.1), hv _ (by omega)]
      · rw [zp_o _ _ (by omega)]; exact hu' u hu2
      · rw [zp_o _ _ (by omega)]; exact hv j (by omega)
/-- the journal, an entry later -/
theorem RJn_step {c c' : zs} {m m' : Nat → Int32} {ne s t : Nat} {b : Bool} (hs : s < 6) (ht : t < 28) (hne : ne ≤ 20) (q1 : c 20 1 = nI ne) (R : RJn c m)
    (c1 : c' 20 1 = nI (min (ne + 1) 20)) (c2 : c' 20 2 = (if b then c 20 2 + 1 else c 20 2)) (c3 : c' 20 3 = (if b then c 20 3 else c 20 3 + 1)) (c4 : c' 21 0 = nI (zent s t b)) (c5 : ∀ k, k + 1 < 20 → c' 21 (k + 1) = c 21 k)
    (m1 : m' 6 = nI (min (ne + 1) 20)) (m2 : m' 4 = (if b then m 4 + 1 else m 4)) (m3 : m' 5 = (if b then m 5 else m 5 + 1)) (m4 : m' 7 = nI (zent s t b)) (m5 : ∀ k, k + 1 < 20 → m' (7 + (k + 1)) = m (7 + k)) : RJn c' m' := by
  obtain ⟨ne2, h1, ⟨h2, h2'⟩, ⟨h3, h3'⟩, h4, h5⟩ := R
  have e : ne2 = ne := by
    rw [h2] at q1
    rwa [znI_inj (by omega) (by omega)] at q1
  subst e
  refine ⟨min (ne2 + 1) 20, by omega, ⟨c1, m1⟩, ⟨by rw [m2, c2, h3], by rw [m3, c3, h3']⟩, fun i hi => ?_, fun i hi => ?_⟩
  · cases i with
    | zero => rw [c4]; exact m4
    | succ k => rw [c5 k hi, m5 k hi]; exact h4 k (by omega)
  · cases i with
    | zero =>
      refine ⟨zent s t b, ?_, ?_, c4⟩
      · unfold zent; split <;> omega
      · unfold zent; split <;> omega
    | succ k => rw [c5 k (by omega)]; exact h5 k (by omega)
theorem RS_asm {c c' : zs} {m m' : Nat → Int32} {K K' n : Nat} (hK : K ≤ K') (R : RS c m K n) (hc : ∀ p, (2 ≤ p ∧ p ≤ 12 ∧ p ≠ 7) → c' p = c p) (hm : ∀ j, (j = 1 ∨ (51 ≤ j ∧ j < 163) ∨ (191 ≤ j ∧ j < 555)) → m' j = m j)
    (h7 : ∀ u, u < n → m' (163 + u) = c' 7 u ∧ zr (c' 7 u) (K' + 1)) (hB : RBx c' m' n) (hJ : RJn c' m') (hO : ROb c' m') (hT : RTm c' m' K') (hE : REx c' m') : RS c' m' K' n := by
  obtain ⟨a1, a2, a3, -⟩ := R
  refine ⟨a1, by rw [hc 2 (by decide), hm 1 (by decide)]; exact a2, fun u hu => ?_, hB, hJ, hO, hT, hE⟩
  have T := a3 u hu
  refine RTk_upd (by omega) (fun p hp => hc p (by omega)) (fun j hj => hm j (by omega)) T ?_ (h7 u hu) ?_
  · rw [hm _ (by omega), hc 6 (by decide)]; exact RT_hold T
  · rw [hm _ (by omega), hc 8 (by decide)]; exact RT_rev T
theorem zr_add1 {x : Int32} {B : Nat} (h : zr x B) (hB : B < 2147483647) : zr (x + 1) (B + 1) := by
  obtain ⟨v, h1, h2, rfl⟩ := h
  rw [nI_1]; exact ⟨v + 1, by omega, by omega, rfl⟩
theorem k_request (hK : K < 1000) (R : RA σ K) (a b r d : Int32) : zok (f_L_request_0_75 σ a b r d) (fun τ => f_X9_request τ a b r d) (K + 1) := by
  obtain ⟨n, hS⟩ := R.1
  have hS0 := hS
  obtain ⟨hn, ⟨hc, hm⟩, ht, hbx, hjn, hob, htm, hex⟩ := hS
  have o41 : ∀ (τ : zs) (e : Int32), e ≠ 0 → f_X9_request_41 τ a b r d e = some (0, zp τ 65 3 e) := fun τ e he => by rw [f_X9_request_41, zp_e, if_neg he]
  rcases zcase a (n := 6) (by omega) with ⟨s, hs, rfl⟩ | ho
  · rcases zcase b (n := n) (by omega) with ⟨t, htn, rfl⟩ | ho2
    · by_cases hr : r = 1 ∨ r = 2 ∨ r = 8
      · obtain ⟨o, ho1, hto⟩ := zr_of (RT_obj (ht t htn)).2
        obtain ⟨ne, hne, ⟨q1, q2⟩, -⟩ := hjn
        have hjn := hS0.2.2.2.2.1
        obtain ⟨σ1, g1, g2, g3⟩ := p_isAllowed hn ht hs htn r d
        have e1 : ∀ p, p ≠ 49 → p ≠ 50 → p ≠ 51 → p ≠ 62 → σ1 p = σ p := g2
        obtain ⟨σ2, k1, k2, k3, k4, k5, k6, k7⟩ := p_enter (σ := σ1) hne (by rw [e1 20 (by decide) (by decide) (by decide) (by decide)]; exact q1) s t (zIs (zask σ s t r d))
        have e2 : ∀ p, p ≠ 49 → p ≠ 50 → p ≠ 51 → p ≠ 62 → p ≠ 20 → p ≠ 21 → σ2 p = σ p := fun p p1 p2 p3 p4 p5 p6 => by rw [k2 p p5 p6, e1 p p1 p2 p3 p4]
        have cl : f_X8_request σ (nI s) (nI t) r d = zx (f_X8_needPermission σ2 (bI (zIs (zask σ s t r d)))) (fun r17 σ18 => zb (f_X7_useChain σ18 (nI t)) (fun r20 σ21 => zg (zin (nI t) 28) (zb (f_X6_act σ21 (σ21 3 (nI t).toNatClampNeg) r d) (fun r23 σ24 => some (0, r23, σ24))))) := by
          have e30 : f_X8_request_30 σ (nI s) (nI t) r d 1 = zx (f_X8_needPermission σ2 (bI (zIs (zask σ s t r d)))) (fun r17 σ18 => zb (f_X7_useChain σ18 (nI t)) (fun r20 σ21 => zg (zin (nI t) 28) (zb (f_X6_act σ21 (σ21 3 (nI t).toNatClampNeg) r d) (fun r23 σ24 => some (0, r23, σ24))))) := by
            rw [f_X8_request_30, f_X8_needArgument, if_neg (by decide), zx_0, g1, zb_s, k1, zb_s]
          rw [f_X8_request, c_sub_in _ hs, zx_0, c_tok_in hc hn htn, zx_0]
          rcases hr with rfl | rfl | rfl
          · rw [if_pos rfl]; exact e30
          · rw [if_neg (by decide), if_pos rfl]; exact e30
          · rw [if_neg (by decide), if_neg (by decide), if_pos rfl]; exact e30
        have md : ∀ τ : zs, τ 66 = σ 66 → f_X9_request τ (nI s) (nI t) r d = f_X9_request_41 τ (nI s) (nI t) r d 0 := by
          intro τ e
          rw [f_X9_request, m_sub_in _ hs, zb_s, if_neg (by decide), m_tok_in (by rw [e]; exact hm) hn htn, zb_s, if_neg (by decide)]
          rcases hr with rfl | rfl | rfl
          · rw [if_pos rfl]
          · rw [if_neg (by decide), if_pos rfl]
          · rw [if_neg (by decide), if_neg (by decide), if_pos rfl]
        have md2 : ∀ τ : zs, τ 66 = σ 66 → ∃ τ6 τ9 : zs, f_X9_request τ (nI s) (nI t) r d = f_X9_request_119 τ9 (nI t) r d (bI (zIs (zask σ s t r d))) (if zIs (zask σ s t r d) then 0 else 3) ∧ zFm (zp τ 65 3 0) τ6 ∧ zDenM (zp τ 65 3 0) τ6 (zask σ s t r d) ∧ τ6 66 = σ 66 ∧ zQr8 τ6 ne s t (zIs (zask σ s t r d)) τ9 := by
          intro τ e
          have e66 : (zp τ 65 3 0) 66 = σ 66 := by rw [zp_n _ _ _ (by decide)]; exact e
          obtain ⟨τ6, w1, w2, w3⟩ := m_allows (τ := zp τ 65 3 0) (c := σ) (K := K) hn (by rw [e66]; exact ht) (by rw [e66]; exact htm.1) hs htn r d
          have e6 : τ6 66 = σ 66 := by rw [w2.1 66 (by decide) (by decide) (by decide) (by decide)]; exact e66
          obtain ⟨τ9, v1, v2⟩ := m_req85 (τ := τ6) hne (by rw [e6]; exact q2) s t r d (zIs (zask σ s t r d))
          refine ⟨τ6, τ9, ?_, w2, w3, e6, v2⟩
          rw [md τ e, f_X9_request_41, zp_e, if_pos rfl, w1, zb_s, ← v1, bI_0]
          cases zIs (zask σ s t r d) <;> rfl
        cases hz : zask σ s t r d with
        | none =>
          rw [hz] at cl g3 k4 k5 k6
          have e3 : ∀ p, p ≠ 62 → p ≠ 20 → p ≠ 21 → σ2 p = σ p := by
            intro p p1 p2 p3
            by_cases w : p = 49 ∨ p = 50 ∨ p = 51
            · rw [k2 p p2 p3]; exact g3 p w
            · exact e2 p (by omega) (by omega) (by omega) p1 p2 p3
          have ht2 : ∀ u, u < n → RTk σ2 (σ 66) K u := fun u hu => RTk_upd (by omega) (fun p hp => e3 p (by omega) (by omega) (by omega)) (fun _ _ => rfl) (ht u hu) (by rw [e3 6 (by decide) (by decide) (by decide)]; exact RT_hold (ht u hu)) (by rw [e3 7 (by decide) (by decide) (by decide)]; exact RT_use (ht u hu)) (by rw [e3 8 (by decide) (by decide) (by decide)]; exact RT_rev (ht u hu))
          obtain ⟨σ3, u1, u2, u3⟩ := p_useChain (σ := σ2) (m := σ 66) (K := K) hn ht2 htn
          obtain ⟨σ4, a1, a2, a3, a4⟩ := p_act (σ := σ3) ho1 hr d
          have e33 : σ3 3 t = nI o := by rw [u2 3 (by decide), e3 3 (by decide) (by decide) (by decide)]; exact hto
          have e22 : σ3 22 = σ 22 := by rw [u2 22 (by decide), e3 22 (by decide) (by decide) (by decide)]
          have e23 : σ3 23 = σ 23 := by rw [u2 23 (by decide), e3 23 (by decide) (by decide) (by decide)]
          rw [e22, e23] at a1
          have E4 : ∀ p, p ≠ 7 → p ≠ 22 → p ≠ 23 → σ4 p = σ2 p := fun p p1 p2 p3 => by rw [a2 p p2 p3, u2 p p1]
          have E : ∀ p, p ≠ 62 → p ≠ 20 → p ≠ 21 → p ≠ 7 → p ≠ 22 → p ≠ 23 → σ4 p = σ p := fun p p1 p2 p3 p4 p5 p6 => by rw [E4 p p4 p5 p6, e3 p p1 p2 p3]
          have cl2 : f_X8_request σ (nI s) (nI t) r d = some (0, (if r = 8 then σ 23 o + 1 else σ 22 o), σ4) := by
            rw [cl, f_X8_needPermission, if_neg (show ¬ bI (zIs none) = 0 by decide), zx_0, u1, zb_s, zg_in _ (by omega) (by omega), zcl (by omega), e33, a1, zb_s]
          generalize hans : (if r = 8 then σ 23 o + 1 else σ 22 o) = ans at cl2
          obtain ⟨τ6, τ9, v1, v2, v3, v4, v5, v6, v7, v8, v9, v10, v11⟩ := md2 (zp σ4 75 0 ans) (by rw [zp_n _ _ _ (by decide), E 66 (by decide) (by decide) (by decide) (by decide) (by decide) (by decide)])
          rw [hz] at v1 v3 v7 v9 v10
          have v1' : f_X9_request (zp σ4 75 0 ans) (nI s) (nI t) r d = zlp4 f_X9_request_132 1000 (zp τ9 65 3 0) (nI t) r d (nI t) := by
            rw [v1, f_X9_request_119, if_neg (show ¬ bI (zIs none) = 0 by decide)]; rfl
          have B : ∀ j, (j < 4 ∨ 26 < j) → (zp τ9 65 3 0) 66 j = σ 66 j := fun j hj => by rw [zp_n _ _ _ (by decide), v11 j hj, v4]
          have ht9 : ∀ u, u < n → RTk σ ((zp τ9 65 3 0) 66) K u := fun u hu => RTk_upd (by omega) (fun _ _ => rfl) (fun j hj => B j (by omega)) (ht u hu) (by rw [B _ (by omega)]; exact RT_hold (ht u hu)) (by rw [B _ (by omega)]; exact RT_use (ht u hu)) (by rw [B _ (by omega)]; exact RT_rev (ht u hu))
          obtain ⟨τ', w1, w2, w3, w4, w5, w6⟩ := m_req132 (τ := zp τ9 65 3 0) (c := σ) (K := K) hn ht9 htn ho1 hto hr d
          have hans2 : (if r = 8 then (zp τ9 65 3 0) 66 (39 + o) + 1 else (zp τ9 65 3 0) 66 (27 + o)) = ans := by
            rw [B _ (by omega), B _ (by omega), (hob o ho1).1, (hob o ho1).2]; exact hans
          rw [hans2] at w1
          have F : ∀ p, p ≠ 65 → p ≠ 66 → p ≠ 69 → p ≠ 75 → τ' p = σ4 p := by
            intro p p1 p2 p3 p4
            rw [w2 p p2, zp_n _ _ _ p1, v5 p p2]
            by_cases w : p = 70 ∨ p = 71
            · rw [v3.1 p w, zp_n _ _ _ p1, zp_n _ _ _ p4]
            · rw [v2.1 p p1 p3 (by omega) (by omega), zp_n _ _ _ p1, zp_n _ _ _ p4]
          have F65 : ∀ j, j ≠ 3 → τ' 65 j = σ 65 j := by
            intro j hj
            rw [w2 65 (by decide), zp_o _ _ hj, v5 65 (by decide)]
            by_cases w : j = 10
            · subst w
              rw [v3.2, zp_o _ _ hj, zp_n _ _ _ (by decide), E 65 (by decide) (by decide) (by decide) (by decide) (by decide) (by decide)]
            · rw [v2.2 j w, zp_o _ _ hj, zp_n _ _ _ (by decide), E 65 (by decide) (by decide) (by decide) (by decide) (by decide) (by decide)]
          refine zok_0 (r := ans) (σ1 := σ4) (σ2 := τ') cl2 (v1'.trans w1) ?_ ?_ (RA_new (n := n) R (RS_asm (Nat.le_succ K) hS0 (fun p hp => ?_) (fun j hj => ?_) (fun u hu => ?_) ?_ (RJn_step (b := true) hs (show t < 28 by omega) hne q1 hjn ?_ ?_ ?_ ?_ (fun k hk => ?_) ?_ ?_ ?_ ?_ (fun k hk => ?_)) (fun i hi => ?_) ?_ ?_) (fun p hp => ?_) (fun j hj => F65 j (by omega)))
          · rw [w2 65 (by decide), zp_e]
          · rw [w2 75 (by decide), zp_n _ _ _ (by decide), v5 75 (by decide), v2.1 75 (by decide) (by decide) (by decide) (by decide), zp_n _ _ _ (by decide)]
          · rw [F p (by omega) (by omega) (by omega) (by omega), E p (by omega) (by omega) (by omega) (by omega) (by omega) (by omega)]
          · rw [w6 j (by omega), B j (by omega)]
          · have zb2 : zbl σ2 t u = zbl σ t u := by
              unfold zbl zln zch
              rw [e3 4 (by decide) (by decide) (by decide), e3 5 (by decide) (by decide) (by decide)]
            have U := (RT_use (ht u hu)).2
            rw [w5 u hu, F 7 (by decide) (by decide) (by decide) (by decide), a2 7 (by decide) (by decide), u3 u hu, zb2, e3 7 (by decide) (by decide) (by decide)]
            refine ⟨rfl, ?_⟩
            cases zbl σ t u with
            | true => exact zr_add1 U (by omega)
            | false => exact zr_le U (by omega)
          · exact RBx_cong (fun p hp => by rw [F p (by omega) (by omega) (by omega) (by omega), E p (by omega) (by omega) (by omega) (by omega) (by omega) (by omega)]) (fun j hj => by rw [w6 j (by omega), B j (by omega)]) hbx
          · rw [F 20 (by decide) (by decide) (by decide) (by decide), E4 20 (by decide) (by decide) (by decide)]; exact k3
          · rw [F 20 (by decide) (by decide) (by decide) (by decide), E4 20 (by decide) (by decide) (by decide), ← e1 20 (by decide) (by decide) (by decide) (by decide)]; exact k4
          · rw [F 20 (by decide) (by decide) (by decide) (by decide), E4 20 (by decide) (by decide) (by decide), ← e1 20 (by decide) (by decide) (by decide) (by decide)]; exact k5
          · rw [F 21 (by decide) (by decide) (by decide) (by decide), E4 21 (by decide) (by decide) (by decide)]; exact k6
          · rw [F 21 (by decide) (by decide) (by decide) (by decide), E4 21 (by decide) (by decide) (by decide), ← e1 21 (by decide) (by decide) (by decide) (by decide)]; exact k7 k hk
          · rw [w6 6 (by omega), zp_n _ _ _ (by decide)]; exact v6
          · rw [w6 4 (by omega), zp_n _ _ _ (by decide), ← v4]; exact v9
          · rw [w6 5 (by omega), zp_n _ _ _ (by decide), ← v4]; exact v10
          · rw [w6 7 (by omega), zp_n _ _ _ (by decide)]; exact v7
          · rw [w6 _ (by omega), zp_n _ _ _ (by decide), ← v4]; exact v8 k hk
          · rw [w3 i hi, w4 i hi, B _ (by omega), B _ (by omega), F 22 (by decide) (by decide) (by decide) (by decide), F 23 (by decide) (by decide) (by decide) (by decide), a3 i, a4 i, e22, e23, (hob i hi).1, (hob i hi).2]
            exact ⟨rfl, rfl⟩
          · exact RTm_cong (Nat.le_succ K) (by rw [F 1 (by decide) (by decide) (by decide) (by decide), E 1 (by decide) (by decide) (by decide) (by decide) (by decide) (by decide)]) (by rw [w6 0 (by omega), B 0 (by omega)]) htm
          · exact REx_cong (by rw [F 1 (by decide) (by decide) (by decide) (by decide), E 1 (by decide) (by decide) (by decide) (by decide) (by decide) (by decide)]) (by rw [F 24 (by decide) (by decide) (by decide) (by decide), E 24 (by decide) (by decide) (by decide) (by decide) (by decide) (by decide)]) (fun j hj => by rw [w6 j (by omega), B j (by omega)]) hex
          · rw [F p (by omega) (by omega) (by omega) (by omega), E p (by omega) (by omega) (by omega) (by omega) (by omega) (by omega)]
        | some L =>
          rw [hz] at cl g3 k4 k5 k6
          have cl2 : f_X8_request σ (nI s) (nI t) r d = some (3 + 1, 0, σ2) := by
            rw [cl, f_X8_needPermission, if_pos (show bI (zIs (some L)) = 0 from rfl)]; rfl
          obtain ⟨τ6, τ9, v1, v2, v3, v4, v5, v6, v7, v8, v9, v10, v11⟩ := md2 σ2 (e2 66 (by decide) (by decide) (by decide) (by decide) (by decide) (by decide))
          rw [hz] at v1 v3 v7 v9 v10
          have v1' : f_X9_request σ2 (nI s) (nI t) r d = some (0, zp τ9 65 3 3) := by
            rw [v1, f_X9_request_119, if_pos (show bI (zIs (some L)) = 0 from rfl)]; rfl
          have B : ∀ j, (j < 4 ∨ 26 < j) → (zp τ9 65 3 3) 66 j = σ 66 j := fun j hj => by rw [zp_n _ _ _ (by decide), v11 j hj, v4]
          have F : ∀ p, p ≠ 65 → p ≠ 66 → p ≠ 69 → p ≠ 70 → p ≠ 71 → (zp τ9 65 3 3) p = σ2 p := by
            intro p p1 p2 p3 p4 p5
            rw [zp_n _ _ _ p1, v5 p p2, v2.1 p p1 p3 p4 p5, zp_n _ _ _ p1]
          have E := e2
          refine zok_e cl2 rfl (show (3 : Int32) ≠ 0 by decide) v1' (zp_e _ _ _ _) (RA_rep (n := n) R (RS_asm (Nat.le_succ K) hS0 (fun p hp => ?_) (fun j hj => ?_) (fun u hu => ?_) ?_ (RJn_step (b := false) hs (show t < 28 by omega) hne q1 hjn ?_ ?_ ?_ ?_ (fun k hk => ?_) ?_ ?_ ?_ ?_ (fun k hk => ?_)) ?_ ?_ ?_) (fun p hp => ?_) (fun j hj => ?_) (RRp_of g3.2 ?_ ?_))
          · rw [F p (by omega) (by omega) (by omega) (by omega) (by omega), E p (by omega) (by omega) (by omega) (by omega) (by omega) (by omega)]
          · exact B j (by omega)
          · rw [B _ (by omega), F 7 (by decide) (by decide) (by decide) (by decide) (by decide), E 7 (by decide) (by decide) (by decide) (by decide) (by decide) (by decide)]
            exact ⟨(RT_use (ht u hu)).1, zr_le (RT_use (ht u hu)).2 (by omega)⟩
          · exact RBx_cong (fun p hp => by rw [F p (by omega) (by omega) (by omega) (by omega) (by omega), E p (by omega) (by omega) (by omega) (by omega) (by omega) (by omega)]) (fun j hj => B j (by omega)) hbx
          · rw [F 20 (by decide) (by decide) (by decide) (by decide) (by decide)]; exact k3
          · rw [F 20 (by decide) (by decide) (by decide) (by decide) (by decide), ← e1 20 (by decide) (by decide) (by decide) (by decide)]; exact k4
          · rw [F 20 (by decide) (by decide) (by decide) (by decide) (by decide), ← e1 20 (by decide) (by decide) (by decide) (by decide)]; exact k5
          · rw [F 21 (by decide) (by decide) (by decide) (by decide) (by decide)]; exact k6
          · rw [F 21 (by decide) (by decide) (by decide) (by decide) (by decide), ← e1 21 (by decide) (by decide) (by decide) (by decide)]; exact k7 k hk
          · rw [zp_n _ _ _ (by decide)]; exact v6
          · rw [zp_n _ _ _ (by decide), ← v4]; exact v9
          · rw [zp_n _ _ _ (by decide), ← v4]; exact v10
          · rw [zp_n _ _ _ (by decide)]; exact v7
          · rw [zp_n _ _ _ (by decide), ← v4]; exact v8 k hk
          · exact ROb_cong (fun p hp => by rw [F p (by omega) (by omega) (by omega) (by omega) (by omega), E p (by omega) (by omega) (by omega) (by omega) (by omega) (by omega)]) (fun j hj => B j (by omega)) hob
          · exact RTm_cong (Nat.le_succ K) (by rw [F 1 (by decide) (by decide) (by decide) (by decide) (by decide), E 1 (by decide) (by decide) (by decide) (by decide) (by decide) (by decide)]) (B 0 (by omega)) htm
          · exact REx_cong (by rw [F 1 (by decide) (by decide) (by decide) (by decide) (by decide), E 1 (by decide) (by decide) (by decide) (by decide) (by decide) (by decide)]) (by rw [F 24 (by decide) (by decide) (by decide) (by decide) (by decide), E 24 (by decide) (by decide) (by decide) (by decide) (by decide) (by decide)]) (fun j hj => B j (by omega)) hex
          · rw [F p (by omega) (by omega) (by omega) (by omega) (by omega), E p (by omega) (by omega) (by omega) (by omega) (by omega) (by omega)]
          · rw [zp_o _ _ (by omega), v5 65 (by decide), v2.2 j (by omega), zp_o _ _ (by omega), E 65 (by decide) (by decide) (by decide) (by decide) (by decide) (by decide)]
          · exact zRepC_cong (fun p hp => by rw [F p (by omega) (by omega) (by omega) (by omega) (by omega), k2 p (by omega) (by omega)]) g3.1
          · exact zRepM_cong (fun p hp => by rw [zp_n _ _ _ (by omega), v5 p (by omega)]) (by rw [zp_o _ _ (by decide), v5 65 (by decide)]) v3.1
      · have hr1 : ¬ r = 1 := fun e => hr (Or.inl e)
        have hr2 : ¬ r = 2 := fun e => hr (Or.inr (Or.inl e))
        have hr8 : ¬ r = 8 := fun e => hr (Or.inr (Or.inr e))
        refine zokq_e 1 2 R ⟨σ, 0, ?_, zQx_refl σ⟩ (fun _ => rfl) (by decide) (fun τ hv => ⟨zp τ 65 3 2, 0, ?_, zp_e _ _ _ _, zMx_3 _ _⟩)
        · rw [f_X8_request, c_sub_in _ hs, zx_0, c_tok_in hc hn htn, zx_0, if_neg hr1, if_neg hr2, if_neg hr8]; rfl
        · have e := hv 66 (by decide) (by decide)
          rw [f_X9_request, m_sub_in _ hs, zb_s, if_neg (by decide), m_tok_in (by rw [e]; exact hm) hn htn, zb_s, if_neg (by decide), if_neg hr1, if_neg hr2, if_neg hr8, o41 _ _ (by decide)]
    · refine zokq_e 0 1 R ⟨σ, 0, ?_, zQx_refl σ⟩ (fun _ => rfl) (by decide) (fun τ hv => ⟨zp τ 65 3 1, 0, ?_, zp_e _ _ _ _, zMx_3 _ _⟩)
      · rw [f_X8_request, c_sub_in _ hs, zx_0, c_tok_out hc ho2]; rfl
      · have e := hv 66 (by decide) (by decide)
        rw [f_X9_request, m_sub_in _ hs, zb_s, if_neg (by decide), m_tok_out (by rw [e]; exact hm) hn ho2, zb_s, if_pos rfl, o41 _ _ (by decide)]
  · refine zokq_e 0 1 R ⟨σ, 0, ?_, zQx_refl σ⟩ (fun _ => rfl) (by decide) (fun τ hv => ⟨zp τ 65 3 1, 0, ?_, zp_e _ _ _ _, zMx_3 _ _⟩)
    · rw [f_X8_request, c_sub_out σ ho]; rfl
    · rw [f_X9_request, m_sub_out _ ho, zb_s, if_pos rfl, o41 _ _ (by decide)]
end PT
