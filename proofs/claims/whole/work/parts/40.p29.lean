/-! texts: caveats -/
abbrev zcav : Type := Nat × Nat × Int32
def zkn (x : Int32) : Option Nat := if x = 114 then some 0 else if x = 116 then some 1 else if x = 115 then some 2 else if x = 110 then some 3 else if x = 97 then some 4 else none
def zkd (x : Int32) : Int32 := match zkn x with
  | some k => nI k
  | none => -1
def zhi (k : Nat) : Nat := if k = 0 then 15 else if k = 2 then 5 else 999
theorem zkn_lt {x : Int32} {k : Nat} (h : zkn x = some k) : k < 5 := by
  unfold zkn at h
  split at h
  · cases h; decide
  · split at h
    · cases h; decide
    · split at h
      · cases h; decide
      · split at h
        · cases h; decide
        · split at h
          · cases h; decide
          · cases h
theorem zhi_le (k : Nat) : zhi k < 1000 := by unfold zhi; split <;> (try split) <;> omega
def zpc3 (g : Nat → Int32) (w v d : Nat) : Nat ⊕ (Nat × zcav) := if znl g w d = 0 ∨ znv g w d < v then .inl d else .inr (d + znl g w d, (4, v, nI (znv g w d)))
def zpc4 (g : Nat → Int32) (w v c : Nat) : Nat ⊕ (Nat × zcav) := if c < w ∧ g c = 45 then zpc3 g w v (c + 1) else .inl c
def zpc2 (g : Nat → Int32) (w k b : Nat) : Nat ⊕ (Nat × zcav) := if znl g w b = 0 ∨ zhi k < znv g w b then .inl b else if k = 4 then zpc4 g w (znv g w b) (b + znl g w b) else .inr (b + znl g w b, (k, znv g w b, -1))
def zpc (g : Nat → Int32) (w a : Nat) : Nat ⊕ (Nat × zcav) := if a < w then (match zkn (g a) with
  | none => .inl a
  | some k => zpc2 g w k (a + 1)) else .inl a
/-- what a caveat that was read is like -/
def zcok (x : zcav) : Prop := x.1 < 5 ∧ x.2.1 < 1000 ∧ (x.1 = 0 → x.2.1 < 16) ∧ (x.1 = 2 → x.2.1 < 6) ∧ (x.1 = 4 → zr x.2.2 1000)
def zpok (w : Nat) (o : Nat ⊕ (Nat × zcav)) : Prop := match o with
  | .inl e => e ≤ w
  | .inr (p, x) => p ≤ w ∧ zcok x
theorem zpc_ok {g : Nat → Int32} {w a : Nat} (hg : zsg g w) (ha : a ≤ w) : zpok w (zpc g w a) := by
  unfold zpc
  by_cases h : a < w
  · rw [if_pos h]
    cases hk : zkn (g a) with
    | none => exact ha
    | some k =>
      have k5 := zkn_lt hk
      show zpok w (zpc2 g w k (a + 1))
      have l1 := znl_le (g := g) (w := w) (a := a + 1) (by omega)
      have v1 := znv_le (w := w) (a := a + 1) hg
      unfold zpc2
      by_cases h1 : znl g w (a + 1) = 0 ∨ zhi k < znv g w (a + 1)
      · rw [if_pos h1]; exact h
      · rw [if_neg h1]
        by_cases h2 : k = 4
        · rw [if_pos h2]
          generalize a + 1 + znl g w (a + 1) = c at l1
          unfold zpc4
          by_cases h3 : c < w ∧ g c = 45
          · rw [if_pos h3]
            unfold zpc3
            have l2 := znl_le (g := g) (w := w) (a := c + 1) (by omega)
            have v2 := znv_le (w := w) (a := c + 1) hg
            by_cases h4 : znl g w (c + 1) = 0 ∨ znv g w (c + 1) < znv g w (a + 1)
            · rw [if_pos h4]; show c + 1 ≤ w; omega
            · rw [if_neg h4]
              exact ⟨l2, (show (4 : Nat) < 5 by decide), v1, fun e => absurd (show (4 : Nat) = 0 from e) (by decide), fun e => absurd (show (4 : Nat) = 2 from e) (by decide), fun _ => zr_i v2 (by omega)⟩
          · rw [if_neg h3]; exact l1
        · rw [if_neg h2]
          refine ⟨l1, k5, v1, fun e => ?_, fun e => ?_, fun e => absurd e h2⟩
          · have e' : k = 0 := e
            subst e'
            have : zhi 0 = 15 := rfl
            show znv g w (a + 1) < 16
            omega
          · have e' : k = 2 := e
            subst e'
            have : zhi 2 = 5 := rfl
            show znv g w (a + 1) < 6
            omega
  · rw [if_neg h]; exact ha
theorem p_indexOf (σ : zs) {v : Nat} (hv : v < 127) : f_J0_indexOf_0f7a4 σ (nI v) = some (zkd (nI v), σ) := by
  have e8 : ∀ v, v < 127 → (nI v).toInt8.toInt32 = nI v := by decide +kernel
  have step : ∀ (i : Nat) (rec : zs → Int32 → Int32 → Int32 → Option (Int32 × zs)), i < 5 → f_J1_indexOfChar_4cfef_G25_7 rec σ 5 (nI v) (nI i) = if zLet.getD i 0 = nI v then some (nI i, σ) else rec σ 5 (nI v) (nI (i + 1)) := by
    intro i rec hi
    rw [f_J1_indexOfChar_4cfef_G25_7, if_neg (by rw [zk5, znI_le (by omega) (by omega)]; omega), zg_in _ hi (by omega), zcl (by omega), nI_1]
  have main : f_J1_indexOfChar_4cfef_G25 σ (nI v) 0 5 = some (zkd (nI v), σ) := by
    rw [f_J1_indexOfChar_4cfef_G25, e8 v hv]
    show f_J1_indexOfChar_4cfef_G25_7 (zlp3 f_J1_indexOfChar_4cfef_G25_7 999) σ 5 (nI v) (nI 0) = _
    rw [step 0 _ (by decide)]
    unfold zkd zkn
    by_cases h0 : nI v = 114
    · rw [if_pos (show zLet.getD 0 0 = nI v from h0.symm), if_pos h0]
    · rw [if_neg (show ¬ zLet.getD 0 0 = nI v from fun e => h0 e.symm), if_neg h0]
      show f_J1_indexOfChar_4cfef_G25_7 (zlp3 f_J1_indexOfChar_4cfef_G25_7 998) σ 5 (nI v) (nI 1) = _
      rw [step 1 _ (by decide)]
      by_cases h1 : nI v = 116
      · rw [if_pos (show zLet.getD 1 0 = nI v from h1.symm), if_pos h1]
      · rw [if_neg (show ¬ zLet.getD 1 0 = nI v from fun e => h1 e.symm), if_neg h1]
        show f_J1_indexOfChar_4cfef_G25_7 (zlp3 f_J1_indexOfChar_4cfef_G25_7 997) σ 5 (nI v) (nI 2) = _
        rw [step 2 _ (by decide)]
        by_cases h2 : nI v = 115
        · rw [if_pos (show zLet.getD 2 0 = nI v from h2.symm), if_pos h2]
        · rw [if_neg (show ¬ zLet.getD 2 0 = nI v from fun e => h2 e.symm), if_neg h2]
          show f_J1_indexOfChar_4cfef_G25_7 (zlp3 f_J1_indexOfChar_4cfef_G25_7 996) σ 5 (nI v) (nI 3) = _
          rw [step 3 _ (by decide)]
          by_cases h3 : nI v = 110
          · rw [if_pos (show zLet.getD 3 0 = nI v from h3.symm), if_pos h3]
          · rw [if_neg (show ¬ zLet.getD 3 0 = nI v from fun e => h3 e.symm), if_neg h3]
            show f_J1_indexOfChar_4cfef_G25_7 (zlp3 f_J1_indexOfChar_4cfef_G25_7 995) σ 5 (nI v) (nI 4) = _
            rw [step 4 _ (by decide)]
            by_cases h4 : nI v = 97
            · rw [if_pos (show zLet.getD 4 0 = nI v from h4.symm), if_pos h4]
            · rw [if_neg (show ¬ zLet.getD 4 0 = nI v from fun e => h4 e.symm), if_neg h4]
              show f_J1_indexOfChar_4cfef_G25_7 (zlp3 f_J1_indexOfChar_4cfef_G25_7 994) σ 5 (nI v) (nI 5) = _
              rw [f_J1_indexOfChar_4cfef_G25_7, if_pos (by decide)]
  have e5 : (5 : Int32) >>> ((0 : Int32) &&& 31) = 5 := by decide
  rw [f_J0_indexOf_0f7a4, f_J0_indexOf_7cf53, f_J0_length_8abf5, zb_s, e5, f_J1_indexOf_4cfef_G25, f_J1_canEncode_9a6ad, if_neg (zlt0 (by omega)), if_neg (by rw [show (255 : Int32) = nI 255 from rfl, znI_lt (by omega) (by omega)]; omega), zb_s, if_neg (show ¬ (1 : Int32) = 0 by decide), if_neg (show ¬ (0 : Int32) < 0 by decide), if_neg (show ¬ (5 : Int32) < 5 by decide), if_pos (show (0 : Int32) < 5 by decide), main, zb_s, zb_s, zb_s]
theorem zGre_e : ∀ k, k < 5 → zGre.getD k 0 = nI (zhi k) := by decide
section QB
variable {s τ : zs} {g : Nat → Int32} {w a : Nat}
def zQre (s : zs) (g : Nat → Int32) (w c : Nat) (o : Nat ⊕ (Nat × zcav)) (x : Option (Int32 × zs)) : Prop := ∃ s' : zs, x = some (0, s') ∧ (∀ p, p ≠ 52 → p ≠ 56 → s' p = s p) ∧ s' 52 1 = nI w ∧ (∀ i, i ≠ c → s' 56 i = s 56 i) ∧ match o with
  | .inl e => s' 52 2 = nI e
  | .inr (p, (_, _, y)) => zTx s' g w p (-1) ∧ s' 56 c = y
theorem p_readEnd (hg : zsg g w) (hw : w ≤ 40) (ha : a ≤ w) (T : zTx s g w a (-1)) {c v : Nat} (hc : c < 4) (hv : v < 1000) (h55 : s 55 c = nI v) : zQre s g w c (zpc4 g w v a) (f_X1_readEnd s (nI c)) := by
  rw [f_X1_readEnd, p_isNext hw ha T, zb_s, bI_0]
  unfold zpc4
  by_cases h : a < w ∧ g a = 45
  · rw [if_pos h, decide_eq_true h.1, decide_eq_true h.2, T.2.1, nI_1, if_pos (show (true && true) = true from rfl)]
    have T1 := zTx_at T (a + 1)
    obtain ⟨s2, g1, g2, g3, g4⟩ := p_readNumber hg hw (show a + 1 ≤ w by omega) T1
    have vl := znv_le (w := w) (a := a + 1) hg
    rw [g1, zb_s, zg_in _ hc (by omega), zcl (by omega), zp_n _ _ _ (by decide), zp_n _ _ _ (by decide), zp_e, zp_e, g4.2.2.1]
    unfold zpc3
    by_cases h0 : znl g w (a + 1) = 0
    · rw [if_pos h0, if_neg (z_m1 (by omega)), if_pos (Or.inl h0)]
      rw [if_pos h0] at g4
      refine ⟨_, rfl, fun p p1 p2 => by rw [zp_n _ _ _ p2, g2 p p1, zp_n _ _ _ p1], by rw [zp_n _ _ _ (by decide)]; exact g4.1, fun i hi => by rw [zp_o _ _ hi, g2 56 (by decide), zp_n _ _ _ (by decide)], by show (zp s2 56 c _) 52 2 = _; rw [zp_n _ _ _ (by decide)]; exact g4.2.2.1⟩
    · rw [if_neg h0, if_pos rfl, zg_in _ hc (by omega), zg_in _ hc (by omega), g2 55 (by decide), zp_n _ _ _ (by decide), h55]
      rw [if_neg h0] at g4
      by_cases h1 : v ≤ znv g w (a + 1)
      · rw [if_pos ((iff_of_eq (znI_le (by omega) (by omega))).mpr h1), if_neg (by omega)]
        exact ⟨_, rfl, fun p p1 p2 => by rw [zp_n _ _ _ p2, g2 p p1, zp_n _ _ _ p1], by rw [zp_n _ _ _ (by decide)]; exact g4.1, fun i hi => by rw [zp_o _ _ hi, g2 56 (by decide), zp_n _ _ _ (by decide)], ⟨by rw [zp_n _ _ _ (by decide)]; exact g4.1, by rw [zp_n _ _ _ (by decide)]; exact g4.2.1, by rw [zp_n _ _ _ (by decide)]; exact g4.2.2.1, by rw [zp_n _ _ _ (by decide)]; exact g4.2.2.2⟩, zp_e _ _ _ _⟩
      · rw [if_neg (fun z => h1 ((iff_of_eq (znI_le (by omega) (by omega))).mp z)), if_pos (Or.inr (by omega))]
        exact ⟨_, rfl, fun p p1 p2 => by rw [zp_n _ _ _ p1, zp_n _ _ _ p2, g2 p p1, zp_n _ _ _ p1], by rw [zp_o _ _ (by decide), zp_n _ _ _ (by decide)]; exact g4.1, fun i hi => by rw [zp_n _ _ _ (by decide), zp_o _ _ hi, g2 56 (by decide), zp_n _ _ _ (by decide)], zp_e _ _ _ _⟩
  · have e : (decide (a < w) && decide (g a = 45)) = false := by
      by_cases q : a < w
      · rw [decide_eq_false (fun z => h ⟨q, z⟩), Bool.and_false]
      · rw [decide_eq_false q]; rfl
    rw [if_neg h, e, if_neg (by decide), T.2.1]
    exact ⟨_, rfl, fun p p1 _ => zp_n _ _ _ p1, by rw [zp_o _ _ (by decide)]; exact T.1, fun i _ => by rw [zp_n _ _ _ (by decide)], zp_e _ _ _ _⟩
def zQrc (s : zs) (g : Nat → Int32) (w c : Nat) (o : Nat ⊕ (Nat × zcav)) (x : Option (Int32 × zs)) : Prop := ∃ s' : zs, x = some (0, s') ∧ (∀ p, p ≠ 52 → p ≠ 54 → p ≠ 55 → p ≠ 56 → s' p = s p) ∧ s' 52 1 = nI w ∧ (∀ i, i ≠ c → s' 54 i = s 54 i ∧ s' 55 i = s 55 i ∧ s' 56 i = s 56 i) ∧ match o with
  | .inl e => s' 52 2 = nI e
  | .inr (p, (k, v, y)) => zTx s' g w p (-1) ∧ s' 52 3 = nI (c + 1) ∧ s' 54 c = nI k ∧ s' 55 c = nI v ∧ s' 56 c = y
/-- the cells of a caveat, written; no error yet -/
theorem p_rc87 (hg : zsg g w) (hw : w ≤ 40) (ha : a ≤ w) (T : zTx s g w a (-1)) {c k v : Nat} (hc : c < 4) (hk : k < 5) (hv : v < 1000) : zQrc s g w c (if k = 4 then zpc4 g w v a else .inr (a, (k, v, -1))) (f_X1_readCaveat_87 s (nI c) (nI k) (nI v)) := by
  rw [f_X1_readCaveat_87, zcl (by omega), zg_in _ hc (by omega), zg_in _ hc (by omega), zg_in _ hc (by omega)]
  have T2 : zTx (zp (zp (zp s 54 c (nI k)) 55 c (nI v)) 56 c (-1)) g w a (-1) := by
    unfold zTx
    simp only [zp_n _ _ _ (show (52 : Nat) ≠ 54 by decide), zp_n _ _ _ (show (52 : Nat) ≠ 55 by decide), zp_n _ _ _ (show (52 : Nat) ≠ 56 by decide), zp_n _ _ _ (show (53 : Nat) ≠ 54 by decide), zp_n _ _ _ (show (53 : Nat) ≠ 55 by decide), zp_n _ _ _ (show (53 : Nat) ≠ 56 by decide)]
    exact T
  rw [T2.2.2.1, if_pos rfl]
  have c54 : (zp (zp (zp s 54 c (nI k)) 55 c (nI v)) 56 c (-1)) 54 c = nI k := by rw [zp_n _ _ _ (by decide), zp_n _ _ _ (by decide), zp_e]
  have c55 : (zp (zp (zp s 54 c (nI k)) 55 c (nI v)) 56 c (-1)) 55 c = nI v := by rw [zp_n _ _ _ (by decide), zp_e]
  have c56 : (zp (zp (zp s 54 c (nI k)) 55 c (nI v)) 56 c (-1)) 56 c = -1 := zp_e _ _ _ _
  have ci : ∀ i, i ≠ c → (zp (zp (zp s 54 c (nI k)) 55 c (nI v)) 56 c (-1)) 54 i = s 54 i ∧ (zp (zp (zp s 54 c (nI k)) 55 c (nI v)) 56 c (-1)) 55 i = s 55 i ∧ (zp (zp (zp s 54 c (nI k)) 55 c (nI v)) 56 c (-1)) 56 i = s 56 i := fun i hi => ⟨by rw [zp_n _ _ _ (by decide), zp_n _ _ _ (by decide), zp_o _ _ hi], by rw [zp_n _ _ _ (by decide), zp_o _ _ hi, zp_n _ _ _ (by decide)], by rw [zp_o _ _ hi, zp_n _ _ _ (by decide), zp_n _ _ _ (by decide)]⟩
  have cf : ∀ p, p ≠ 54 → p ≠ 55 → p ≠ 56 → (zp (zp (zp s 54 c (nI k)) 55 c (nI v)) 56 c (-1)) p = s p := fun p p1 p2 p3 => by rw [zp_n _ _ _ p3, zp_n _ _ _ p2, zp_n _ _ _ p1]
  generalize zp (zp (zp s 54 c (nI k)) 55 c (nI v)) 56 c (-1) = s1 at T2 c54 c55 c56 ci cf
  have e4 : (nI k = (4 : Int32)) = (k = 4) := znI_inj (b := 4) (by omega) (by decide)
  by_cases h4 : k = 4
  · rw [if_pos h4, if_pos ((iff_of_eq e4).mpr h4)]
    obtain ⟨s2, g1, g2, g3, g4, g5⟩ := p_readEnd hg hw ha T2 hc hv c55
    rw [g1, zb_s, nI_1]
    refine ⟨_, rfl, fun p p1 p2 p3 p4 => by rw [zp_n _ _ _ p1, g2 p p1 p4]; exact cf p p2 p3 p4, by rw [zp_o _ _ (by decide)]; exact g3, fun i hi => ⟨by rw [zp_n _ _ _ (by decide), g2 54 (by decide) (by decide)]; exact (ci i hi).1, by rw [zp_n _ _ _ (by decide), g2 55 (by decide) (by decide)]; exact (ci i hi).2.1, by rw [zp_n _ _ _ (by decide), g4 i hi]; exact (ci i hi).2.2⟩, ?_⟩
    -- what the end of a range is like
    have h43 : ∀ o, zpc4 g w v a = o → (match o with
      | .inl e => s2 52 2 = nI e
      | .inr (p, (_, _, y)) => zTx s2 g w p (-1) ∧ s2 56 c = y) → (∀ p k2 v2 y, o = .inr (p, (k2, v2, y)) → k2 = 4 ∧ v2 = v) → match o with
      | .inl e => (zp s2 52 3 (nI (c + 1))) 52 2 = nI e
      | .inr (p, (k, v, y)) => zTx (zp s2 52 3 (nI (c + 1))) g w p (-1) ∧ (zp s2 52 3 (nI (c + 1))) 52 3 = nI (c + 1) ∧ (zp s2 52 3 (nI (c + 1))) 54 c = nI k ∧ (zp s2 52 3 (nI (c + 1))) 55 c = nI v ∧ (zp s2 52 3 (nI (c + 1))) 56 c = y := by
      intro o ho hm hk2
      rcases o with e | ⟨p, k2, v2, y⟩
      · show (zp s2 52 3 (nI (c + 1))) 52 2 = nI e
        rw [zp_o _ _ (by decide)]; exact hm
      · obtain ⟨rfl, rfl⟩ := hk2 p k2 v2 y rfl
        obtain ⟨⟨t1, t2, t3, t4⟩, t5⟩ := hm
        refine ⟨⟨by rw [zp_o _ _ (by decide)]; exact t1, by rw [zp_o _ _ (by decide)]; exact t2, by rw [zp_o _ _ (by decide)]; exact t3, by rw [zp_n _ _ _ (by decide)]; exact t4⟩, zp_e _ _ _ _, ?_, ?_, ?_⟩
        · rw [zp_n _ _ _ (by decide), g2 54 (by decide) (by decide), c54, h4]
        · rw [zp_n _ _ _ (by decide), g2 55 (by decide) (by decide)]; exact c55
        · rw [zp_n _ _ _ (by decide)]; exact t5
    refine h43 _ rfl g5 (fun p k2 v2 y ho => ?_)
    unfold zpc4 at ho
    split at ho
    · unfold zpc3 at ho
      split at ho
      · cases ho
      · cases ho; exact ⟨rfl, rfl⟩
    · cases ho
  · rw [if_neg h4, if_neg (fun q => h4 ((iff_of_eq e4).mp q)), nI_1]
    refine ⟨_, rfl, fun p p1 p2 p3 p4 => by rw [zp_n _ _ _ p1]; exact cf p p2 p3 p4, by rw [zp_o _ _ (by decide)]; exact T2.1, fun i hi => ⟨by rw [zp_n _ _ _ (by decide)]; exact (ci i hi).1, by rw [zp_n _ _ _ (by decide)]; exact (ci i hi).2.1, by rw [zp_n _ _ _ (by decide)]; exact (ci i hi).2.2⟩, ?_⟩
    exact ⟨⟨by rw [zp_o _ _ (by decide)]; exact T2.1, by rw [zp_o _ _ (by decide)]; exact T2.2.1, by rw [zp_o _ _ (by decide)]; exact T2.2.2.1, by rw [zp_n _ _ _ (by decide)]; exact T2.2.2.2⟩, zp_e _ _ _ _, by rw [zp_n _ _ _ (by decide)]; exact c54, by rw [zp_n _ _ _ (by decide)]; exact c55, by rw [zp_n _ _ _ (by decide)]; exact c56⟩
/-- the same, with an error already -/
theorem p_rc87e {c b : Nat} {k v e : Int32} (hc : c < 4) (h1 : s 52 1 = nI w) (he : s 52 2 = e) (he2 : e = nI b) (hb : b ≤ 40) : zQrc s g w c (.inl b) (f_X1_readCaveat_87 s (nI c) k v) := by
  rw [f_X1_readCaveat_87, zcl (by omega), zg_in _ hc (by omega), zg_in _ hc (by omega), zg_in _ hc (by omega)]
  have e1 : (zp (zp (zp s 54 c k) 55 c v) 56 c (-1)) 52 2 = nI b := by rw [zp_n _ _ _ (by decide), zp_n _ _ _ (by decide), zp_n _ _ _ (by decide), he, he2]
  rw [e1, if_neg (z_m1 (by omega)), nI_1]
  refine ⟨_, rfl, fun p p1 p2 p3 p4 => by rw [zp_n _ _ _ p1, zp_n _ _ _ p4, zp_n _ _ _ p3, zp_n _ _ _ p2], by rw [zp_o _ _ (by decide), zp_n _ _ _ (by decide), zp_n _ _ _ (by decide), zp_n _ _ _ (by decide)]; exact h1, fun i hi => ⟨by rw [zp_n _ _ _ (by decide), zp_n _ _ _ (by decide), zp_n _ _ _ (by decide), zp_o _ _ hi], by rw [zp_n _ _ _ (by decide), zp_n _ _ _ (by decide), zp_o _ _ hi, zp_n _ _ _ (by decide)], by rw [zp_n _ _ _ (by decide), zp_o _ _ hi, zp_n _ _ _ (by decide), zp_n _ _ _ (by decide)]⟩, ?_⟩
  show _ = nI b
  rw [zp_o _ _ (by decide)]; exact e1
theorem zQrc_s {s s0 : zs} {c : Nat} {o : Nat ⊕ (Nat × zcav)} {x : Option (Int32 × zs)} (h : zQrc s g w c o x) (f : ∀ p, p ≠ 52 → s p = s0 p) : zQrc s0 g w c o x := by
  obtain ⟨s', a1, a2, a3, a4, a5⟩ := h
  refine ⟨s', a1, fun p p1 p2 p3 p4 => (a2 p p1 p2 p3 p4).trans (f p p1), a3, fun i hi => ?_, a5⟩
  rw [← f 54 (by decide), ← f 55 (by decide), ← f 56 (by decide)]; exact a4 i hi
theorem p_readCaveat (hg : zsg g w) (hw : w ≤ 40) (ha : a ≤ w) (T : zTx s g w a (-1)) {c : Nat} (hc : c < 4) : zQrc s g w c (zpc g w a) (f_X1_readCaveat s (nI c)) := by
  have none29 : zQrc s g w c (.inl a) (f_X1_readCaveat_29 s (nI c) (-1)) := by
    rw [f_X1_readCaveat_29, if_neg (by decide), T.2.1]
    exact ⟨_, rfl, fun p p1 _ _ _ => zp_n _ _ _ p1, by rw [zp_o _ _ (by decide)]; exact T.1, fun i _ => ⟨by rw [zp_n _ _ _ (by decide)], by rw [zp_n _ _ _ (by decide)], by rw [zp_n _ _ _ (by decide)]⟩, zp_e _ _ _ _⟩
  rw [f_X1_readCaveat, T.1, T.2.1]
  unfold zpc
  by_cases h : w ≤ a
  · rw [if_pos ((iff_of_eq (znI_le (by omega) (by omega))).mpr h), if_neg (by omega)]; exact none29
  · obtain ⟨v, v1, v2, v3⟩ := hg a (by omega)
    have T1 := zTx_at T (a + 1)
    rw [if_neg (fun z => h ((iff_of_eq (znI_le (by omega) (by omega))).mp z)), if_pos (by omega), zg_in _ (by omega) (by omega), zcl (by omega), T.2.2.2, v3, p_indexOf s v1, zb_s]
    unfold zkd
    cases hk : zkn (nI v) with
    | none => exact none29
    | some k =>
      have k5 := zkn_lt hk
      show zQrc s g w c (zpc2 g w k (a + 1)) (f_X1_readCaveat_29 s (nI c) (nI k))
      obtain ⟨s2, g1, g2, g3, g4⟩ := p_readNumber hg hw (show a + 1 ≤ w by omega) T1
      have vl := znv_le (w := w) (a := a + 1) hg
      have kl := zhi_le k
      have f2 : ∀ p, p ≠ 52 → s2 p = s p := fun p hp => by rw [g2 p hp, zp_n _ _ _ hp]
      rw [f_X1_readCaveat_29, if_pos (by rw [zi0, znI_le (by omega) (by omega)]; omega), T.2.1, nI_1, g1, zb_s, g4.2.2.1]
      unfold zpc2
      by_cases h0 : znl g w (a + 1) = 0
      · rw [if_pos h0, if_neg (z_m1 (by omega)), if_pos (Or.inl h0)]
        rw [if_pos h0] at g4
        exact zQrc_s (p_rc87e hc g4.1 g4.2.2.1 rfl (by omega)) f2
      · rw [if_neg h0, if_pos rfl, zcl (by omega), zg_in _ k5 (by omega), zGre_e k k5]
        rw [if_neg h0] at g4
        by_cases h1 : znv g w (a + 1) ≤ zhi k
        · rw [if_pos ((iff_of_eq (znI_le (by omega) (by omega))).mpr h1), if_neg (by omega)]
          exact zQrc_s (p_rc87 hg hw (znl_le (by omega)) g4 hc k5 vl) f2
        · rw [if_neg (fun z => h1 ((iff_of_eq (znI_le (by omega) (by omega))).mp z)), if_pos (Or.inr (by omega)), zp_e]
          refine zQrc_s (s := zp s2 52 2 (nI (a + 1))) (p_rc87e hc (by rw [zp_o _ _ (by decide)]; exact g4.1) (zp_e _ _ _ _) rfl (by omega)) (fun p hp => by rw [zp_n _ _ _ hp]; exact f2 p hp)
/-! the reference's caveat -/
theorem m_kindOf (τ : zs) (x : Int32) : f_X9_kindOf τ x = some (zkd x, τ) := by
  rw [f_X9_kindOf]
  unfold zkd zkn
  split
  · rfl
  · split
    · rfl
    · split
      · rfl
      · split
        · rfl
        · split <;> rfl
def zQtc (τ : zs) (g : Nat → Int32) (w q : Nat) (o : Nat ⊕ (Nat × zcav)) (x : Option (Int32 × zs)) : Prop := ∃ (b : Bool) (τ' : zs), x = some (bI b, τ') ∧ (∀ p, p ≠ 65 → p ≠ 72 → τ' p = τ p) ∧ (∀ j, j ≠ 11 → j ≠ 12 → j ≠ 14 → τ' 65 j = τ 65 j) ∧ match o with
  | .inl e => b = false ∧ τ' 65 11 = nI e
  | .inr (p, (k, v, y)) => b = true ∧ zTm τ' g w p ∧ τ' 65 14 = nI (q + 1) ∧ τ' 72 (3 * q) = nI k ∧ τ' 72 (3 * q + 1) = nI v ∧ τ' 72 (3 * q + 2) = y ∧ ∀ i, i < 3 * q → τ' 72 i = τ 72 i
theorem m_tc47 (hg : zsg g w) (hw : w ≤ 40) (ha : a ≤ w) (T : zTm τ g w a) {q k h : Nat} (hq : q < 4) (h14 : τ 65 14 = nI q) (hk : k < 5) (hh : h = zhi k) : zQtc τ g w q (zpc2 g w k a) (f_X9_takesCaveat_47 τ (nI k) (nI h) (nI 0)) := by
  have hh2 := zhi_le k
  rw [f_X9_takesCaveat_47]
  obtain ⟨b, τ1, e1, e2, e3, e4, e5, e6⟩ := m_takesNumber hg hw ha T (l := 0) (h := h) (by omega) (by omega)
  have vl := znv_le (w := w) (a := a) hg
  have al := znl_le (g := g) ha
  rw [e1, zb_s, bI_0]
  rw [decide_eq_true (Nat.zero_le _), Bool.true_and] at e2
  unfold zpc2
  cases b with
  | false =>
    have : znl g w a = 0 ∨ zhi k < znv g w a := by
      have e2' := e2.symm
      rw [Bool.and_eq_false_iff, Bool.not_eq_false', decide_eq_true_eq, decide_eq_false_iff_not] at e2'
      rcases e2' with z | z
      · exact Or.inl z
      · exact Or.inr (by omega)
    rw [if_neg (show ¬ false = true by decide), if_pos this]
    exact ⟨false, τ1, rfl, fun p p1 _ => e3 p p1, fun j j1 j2 _ => e4 j j1 j2, rfl, e6 rfl⟩
  | true =>
    have hno : ¬ (znl g w a = 0 ∨ zhi k < znv g w a) := by
      have e2' := e2.symm
      rw [Bool.and_eq_true, Bool.not_eq_true', decide_eq_false_iff_not, decide_eq_true_eq] at e2'
      omega
    obtain ⟨T1, n1⟩ := e5 rfl
    have q1 : τ1 65 14 = nI q := by rw [e4 14 (by decide) (by decide)]; exact h14
    rw [if_pos rfl, if_neg hno, q1]
    simp (disch := omega) only [zk3, zk1, zk2, nI_mul, nI_add, zg_in, zcl, zp_n, q1, n1]
    have f1 : ∀ p, p ≠ 72 → (zp (zp (zp τ1 72 (3 * q) (nI k)) 72 (3 * q + 1) (nI (znv g w a))) 72 (3 * q + 2) (-1)) p = τ1 p := fun p hp => by rw [zp_n _ _ _ hp, zp_n _ _ _ hp, zp_n _ _ _ hp]
    have r0 : (zp (zp (zp τ1 72 (3 * q) (nI k)) 72 (3 * q + 1) (nI (znv g w a))) 72 (3 * q + 2) (-1)) 72 (3 * q) = nI k := by rw [zp_o _ _ (by omega), zp_o _ _ (by omega), zp_e]
    have r1 : (zp (zp (zp τ1 72 (3 * q) (nI k)) 72 (3 * q + 1) (nI (znv g w a))) 72 (3 * q + 2) (-1)) 72 (3 * q + 1) = nI (znv g w a) := by rw [zp_o _ _ (by omega), zp_e]
    have r2 : (zp (zp (zp τ1 72 (3 * q) (nI k)) 72 (3 * q + 1) (nI (znv g w a))) 72 (3 * q + 2) (-1)) 72 (3 * q + 2) = -1 := zp_e _ _ _ _
    have r3 : ∀ i, i < 3 * q → (zp (zp (zp τ1 72 (3 * q) (nI k)) 72 (3 * q + 1) (nI (znv g w a))) 72 (3 * q + 2) (-1)) 72 i = τ 72 i := fun i hi => by rw [zp_o _ _ (by omega), zp_o _ _ (by omega), zp_o _ _ (by omega), e3 72 (by decide)]
    have hm1 : (-nI 1 : Int32) = -1 := by decide
    rw [hm1]
    generalize zp (zp (zp τ1 72 (3 * q) (nI k)) 72 (3 * q + 1) (nI (znv g w a))) 72 (3 * q + 2) (-1) = τ2 at f1 r0 r1 r2 r3
    have T2 : zTm τ2 g w (a + znl g w a) := ⟨by rw [f1 65 (by decide)]; exact T1.1, by rw [f1 65 (by decide)]; exact T1.2.1, by rw [f1 68 (by decide)]; exact T1.2.2⟩
    have q2 : τ2 65 14 = nI q := by rw [f1 65 (by decide)]; exact q1
    have n2 : τ2 65 12 = nI (znv g w a) := by rw [f1 65 (by decide)]; exact n1
    have F : ∀ p, p ≠ 65 → p ≠ 72 → τ2 p = τ p := fun p p1 p2 => by rw [f1 p p2, e3 p p1]
    have F65 : ∀ j, j ≠ 11 → j ≠ 12 → τ2 65 j = τ 65 j := fun j j1 j2 => by rw [f1 65 (by decide), e4 j j1 j2]
    have e4' : (nI k = (4 : Int32)) = (k = 4) := znI_inj (b := 4) (by omega) (by decide)
    by_cases h4 : k = 4
    · rw [if_pos ((iff_of_eq e4').mpr h4), if_pos h4]
      generalize hcc : a + znl g w a = c at T2 al
      rw [m_here hw al T2, zb_s]
      unfold zpc4 zhe
      by_cases h5 : c < w ∧ g c = 45
      · rw [if_pos h5, if_pos h5.1, if_pos h5.2, T2.2.1, nI_add]
        have T3 := zTm_at T2 (c + 1)
        obtain ⟨b4, τ4, w1, w2, w3, w4, w5, w6⟩ := m_takesNumber hg hw (show c + 1 ≤ w by omega) T3 (l := znv g w a) (h := 999) (by omega) (by omega)
        have vl2 := znv_le (w := w) (a := c + 1) hg
        rw [zp_o _ _ (by decide), n2]
        rw [show (999 : Int32) = nI 999 from rfl, w1, zb_s, bI_0]
        rw [decide_eq_true (show znv g w (c + 1) ≤ 999 by omega), Bool.and_true] at w2
        unfold zpc3
        cases b4 with
        | false =>
          have : znl g w (c + 1) = 0 ∨ znv g w (c + 1) < znv g w a := by
            have e2' := w2.symm
            rw [Bool.and_eq_false_iff, Bool.not_eq_false', decide_eq_true_eq, decide_eq_false_iff_not] at e2'
            rcases e2' with z | z
            · exact Or.inl z
            · exact Or.inr (by omega)
          rw [if_neg (show ¬ false = true by decide), if_pos this]
          exact ⟨false, τ4, rfl, fun p p1 p2 => by rw [w3 p p1, zp_n _ _ _ p1]; exact F p p1 p2, fun j j1 j2 _ => by rw [w4 j j1 j2, zp_o _ _ j1]; exact F65 j j1 j2, rfl, w6 rfl⟩
        | true =>
          have hno2 : ¬ (znl g w (c + 1) = 0 ∨ znv g w (c + 1) < znv g w a) := by
            have e2' := w2.symm
            rw [Bool.and_eq_true, Bool.not_eq_true', decide_eq_false_iff_not, decide_eq_true_eq] at e2'
            omega
          obtain ⟨T4, n4⟩ := w5 rfl
          have q4 : τ4 65 14 = nI q := by rw [w4 14 (by decide) (by decide), zp_o _ _ (by decide)]; exact q2
          have e72 : τ4 72 = τ2 72 := by rw [w3 72 (by decide), zp_n _ _ _ (by decide)]
          rw [if_pos rfl, if_neg hno2, q4, n4]
          simp (disch := omega) only [nI_mul, nI_add, zg_in, zcl]
          rw [f_X9_takesCaveat_157, zp_n _ _ _ (by decide), q4, nI_1]
          refine ⟨true, _, rfl, fun p p1 p2 => by rw [zp_n _ _ _ p1, zp_n _ _ _ p2, w3 p p1, zp_n _ _ _ p1]; exact F p p1 p2, fun j j1 j2 j3 => by rw [zp_o _ _ j3, zp_n _ _ _ (by decide), w4 j j1 j2, zp_o _ _ j1]; exact F65 j j1 j2, rfl, ⟨by rw [zp_o _ _ (by decide), zp_n _ _ _ (by decide)]; exact T4.1, by rw [zp_o _ _ (by decide), zp_n _ _ _ (by decide)]; exact T4.2.1, by rw [zp_n _ _ _ (by decide), zp_n _ _ _ (by decide)]; exact T4.2.2⟩, zp_e _ _ _ _, ?_, ?_, ?_, fun i hi => ?_⟩
          · rw [zp_n _ _ _ (by decide), zp_o _ _ (by omega), e72, r0, h4]
          · rw [zp_n _ _ _ (by decide), zp_o _ _ (by omega), e72]; exact r1
          · rw [zp_n _ _ _ (by decide), zp_e]
          · rw [zp_n _ _ _ (by decide), zp_o _ _ (by omega), e72]; exact r3 i hi
      · have hne : ¬ (if c < w then g c else -1) = (45 : Int32) := by
          intro z
          by_cases y : c < w
          · rw [if_pos y] at z; exact h5 ⟨y, z⟩
          · rw [if_neg y] at z; exact absurd z (by decide)
        rw [if_neg h5, if_neg hne]
        exact ⟨false, τ2, rfl, F, fun j j1 j2 _ => F65 j j1 j2, rfl, T2.2.1⟩
    · rw [if_neg (fun z => h4 ((iff_of_eq e4').mp z)), if_neg h4, f_X9_takesCaveat_157, q2, nI_1]
      refine ⟨true, _, rfl, fun p p1 p2 => by rw [zp_n _ _ _ p1]; exact F p p1 p2, fun j j1 j2 j3 => by rw [zp_o _ _ j3]; exact F65 j j1 j2, rfl, ⟨by rw [zp_o _ _ (by decide)]; exact T2.1, by rw [zp_o _ _ (by decide)]; exact T2.2.1, by rw [zp_n _ _ _ (by decide)]; exact T2.2.2⟩, zp_e _ _ _ _, ?_, ?_, ?_, fun i hi => ?_⟩
      · rw [zp_n _ _ _ (by decide)]; exact r0
      · rw [zp_n _ _ _ (by decide)]; exact r1
      · rw [zp_n _ _ _ (by decide)]; exact r2
      · rw [zp_n _ _ _ (by decide)]; exact r3 i hi
theorem m_takesCaveat (hg : zsg g w) (hw : w ≤ 40) (ha : a ≤ w) (T : zTm τ g w a) {q : Nat} (hq : q < 4) (h14 : τ 65 14 = nI q) : zQtc τ g w q (zpc g w a) (f_X9_takesCaveat τ) := by
  rw [f_X9_takesCaveat, m_here hw ha T, zb_s, m_kindOf, zb_s]
  unfold zpc zhe
  by_cases h : a < w
  · rw [if_pos h, if_pos h]
    unfold zkd
    cases hk : zkn (g a) with
    | none =>
      show zQtc τ g w q (.inl a) (if (0 : Int32) ≤ -1 then _ else _)
      rw [if_neg (by decide)]
      exact ⟨false, τ, rfl, fun _ _ _ => rfl, fun _ _ _ _ => rfl, rfl, T.2.1⟩
    | some k =>
      have k5 := zkn_lt hk
      have T1 := zTm_at T (a + 1)
      have q1 : (zp τ 65 11 (nI (a + 1))) 65 14 = nI q := by rw [zp_o _ _ (by decide)]; exact h14
      have lift : ∀ {x}, zQtc (zp τ 65 11 (nI (a + 1))) g w q (zpc2 g w k (a + 1)) x → zQtc τ g w q (zpc2 g w k (a + 1)) x := by
        rintro x ⟨b, τ', a1, a2, a3, a4⟩
        exact ⟨b, τ', a1, fun p p1 p2 => by rw [a2 p p1 p2, zp_n _ _ _ p1], fun j j1 j2 j3 => by rw [a3 j j1 j2 j3, zp_o _ _ j1], by
          generalize zpc2 g w k (a + 1) = o at a4
          rcases o with e | ⟨p, k2, v2, y⟩
          · exact a4
          · obtain ⟨b1, b2, b3, b4, b5, b6, b7⟩ := a4
            exact ⟨b1, b2, b3, b4, b5, b6, fun i hi => by rw [b7 i hi, zp_n _ _ _ (by decide)]⟩⟩
      show zQtc τ g w q (zpc2 g w k (a + 1)) (if (0 : Int32) ≤ nI k then (if nI k = 0 then (f_X9_takesCaveat_47 (zp τ 65 11 ((τ 65 11) + (1 : Int32))) (nI k) (15 : Int32) (0 : Int32)) else (if nI k = (2 : Int32) then (f_X9_takesCaveat_47 (zp τ 65 11 ((τ 65 11) + (1 : Int32))) (nI k) (5 : Int32) (0 : Int32)) else (f_X9_takesCaveat_47 (zp τ 65 11 ((τ 65 11) + (1 : Int32))) (nI k) (999 : Int32) (0 : Int32)))) else some ((0 : Int32), τ))
      have k0 : (0 : Int32) ≤ nI k := by rw [zi0, znI_le (by omega) (by omega)]; omega
      rw [if_pos k0, T.2.1, nI_1]
      have hc : k = 0 ∨ k = 1 ∨ k = 2 ∨ k = 3 ∨ k = 4 := by omega
      rcases hc with rfl | rfl | rfl | rfl | rfl
      · rw [if_pos (show nI 0 = 0 from rfl)]
        exact lift (m_tc47 hg hw (show a + 1 ≤ w by omega) T1 hq q1 (by omega) (h := 15) rfl)
      · rw [if_neg (show ¬ nI 1 = 0 by decide), if_neg (show ¬ nI 1 = (2 : Int32) by decide)]
        exact lift (m_tc47 hg hw (show a + 1 ≤ w by omega) T1 hq q1 (by omega) (h := 999) rfl)
      · rw [if_neg (show ¬ nI 2 = 0 by decide), if_pos (show nI 2 = 2 from rfl)]
        exact lift (m_tc47 hg hw (show a + 1 ≤ w by omega) T1 hq q1 (by omega) (h := 5) rfl)
      · rw [if_neg (show ¬ nI 3 = 0 by decide), if_neg (show ¬ nI 3 = (2 : Int32) by decide)]
        exact lift (m_tc47 hg hw (show a + 1 ≤ w by omega) T1 hq q1 (by omega) (h := 999) rfl)
      · rw [if_neg (show ¬ nI 4 = 0 by decide), if_neg (show ¬ nI 4 = (2 : Int32) by decide)]
        exact lift (m_tc47 hg hw (show a + 1 ≤ w by omega) T1 hq q1 (by omega) (h := 999) rfl)
  · rw [if_neg h, if_neg h]
    have e : zkd (-1) = -1 := by decide
    rw [e, if_neg (by decide)]
    exact ⟨false, τ, rfl, fun _ _ _ => rfl, fun _ _ _ _ => rfl, rfl, T.2.1⟩
end QB
