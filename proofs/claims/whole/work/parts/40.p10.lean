/-! what the caveats of a chain leave: the reference's way -/
def zmn (a b : Int32) : Int32 := if a ≤ b then a else b
def zmxx (a b : Int32) : Int32 := if a < b then b else a
theorem zmn_toInt (a b : Int32) : (zmn a b).toInt = min a.toInt b.toInt := by
  unfold zmn
  split
  · rename_i h; rw [Int32.le_iff_toInt_le] at h; omega
  · rename_i h; rw [Int32.le_iff_toInt_le] at h; omega
theorem zmxx_toInt (a b : Int32) : (zmxx a b).toInt = max a.toInt b.toInt := by
  unfold zmxx
  split
  · rename_i h; rw [Int32.lt_iff_toInt_lt] at h; omega
  · rename_i h; rw [Int32.lt_iff_toInt_lt] at h; omega
theorem zmn_lt (v x : Int32) : (if x < v then x else v) = zmn v x := by
  apply Int32.toInt_inj.mp
  rw [zmn_toInt]
  split
  · rename_i h; rw [Int32.lt_iff_toInt_lt] at h; omega
  · rename_i h; rw [Int32.lt_iff_toInt_lt] at h; omega
theorem zmn_comm (a b : Int32) : zmn a b = zmn b a := by
  apply Int32.toInt_inj.mp; rw [zmn_toInt, zmn_toInt]; omega
theorem zmn_rot (a b c : Int32) : zmn (zmn a b) c = zmn (zmn a c) b := by
  apply Int32.toInt_inj.mp; simp only [zmn_toInt]; omega
theorem zmxx_rot (a b c : Int32) : zmxx (zmxx a b) c = zmxx (zmxx a c) b := by
  apply Int32.toInt_inj.mp; simp only [zmxx_toInt]; omega
theorem zmn_or (a b : Int32) : zmn a b = a ∨ zmn a b = b := by unfold zmn; split <;> simp
theorem zles_mn (v x : Int32) : zles v x = if v = -1 then x else zmn v x := rfl
theorem zles_rot {v x y : Int32} (hx : x ≠ -1) (hy : y ≠ -1) : zles (zles v x) y = zles (zles v y) x := by
  by_cases h : v = -1
  · rw [zles_mn v x, zles_mn v y, if_pos h, if_pos h, zles_mn, zles_mn, if_neg hx, if_neg hy, zmn_comm]
  · have h1 : zmn v x ≠ -1 := by rcases zmn_or v x with e | e <;> rw [e] <;> assumption
    have h2 : zmn v y ≠ -1 := by rcases zmn_or v y with e | e <;> rw [e] <;> assumption
    rw [zles_mn v x, zles_mn v y, if_neg h, if_neg h, zles_mn, zles_mn, if_neg h1, if_neg h2, zmn_rot]
theorem zmx_ne (x : Int32) : zmx x ≠ -1 := by
  unfold zmx
  split
  · rename_i h
    intro q; rw [q] at h; exact absurd h (by decide)
  · decide
theorem zr_ne {x : Int32} {B : Nat} (h : zr x B) : x ≠ -1 := by
  obtain ⟨v, h1, h2, rfl⟩ := h
  exact z_m1 h2
theorem znar_rot (j : Nat) {kd a b u kd' a' b' u' v : Int32} (ha : a ≠ -1) (ha' : a' ≠ -1) : znar j kd a b u (znar j kd' a' b' u' v) = znar j kd' a' b' u' (znar j kd a b u v) := by
  have and_rot : ∀ x y z : Int32, x &&& y &&& z = x &&& z &&& y := fun x y z => by rw [Int32.and_assoc, Int32.and_comm y z, ← Int32.and_assoc]
  rcases j with _ | _ | _ | _ | _ | j <;> simp only [znar]
  · by_cases p : kd = 0 <;> by_cases q : kd' = 0 <;> simp only [p, q, ↓reduceIte, and_rot]
  · by_cases p : kd = 1 <;> by_cases q : kd' = 1 <;> simp only [p, q, ↓reduceIte]
    exact zles_rot ha' ha
  · by_cases p : kd = 2 <;> by_cases q : kd' = 2 <;> simp only [p, q, ↓reduceIte]
    exact and_rot _ _ _
  · by_cases p : kd = 3 <;> by_cases q : kd' = 3 <;> simp only [p, q, ↓reduceIte]
    exact zles_rot (zmx_ne _) (zmx_ne _)
  · by_cases p : kd = 4 <;> by_cases q : kd' = 4 <;> simp only [p, q, ↓reduceIte]
    exact zmxx_rot _ _ _
  · by_cases p : kd = 4 <;> by_cases q : kd' = 4 <;> simp only [p, q, ↓reduceIte]
    simp only [zmn_lt]
    exact zmn_rot _ _ _
/-- the fold the other way round -/
def zlimr (c : zs) (t j i : Nat) : Int32 := zfold (fun v k => zfold (zstp c j (zch c t (zln c t - 1 - k))) v (zcv c (zch c t (zln c t - 1 - k)))) (zini j) i
theorem zlimr_s (c : zs) (t j i : Nat) : zlimr c t j (i + 1) = zfold (zstp c j (zch c t (zln c t - 1 - i))) (zlimr c t j i) (zcv c (zch c t (zln c t - 1 - i))) := rfl
theorem zlim_rev {c : zs} {m : Nat → Int32} {K n : Nat} (hn : n ≤ 28) (h : ∀ t, t < n → RTk c m K t) {t : Nat} (ht : t < n) (j : Nat) : zlimr c t j (zln c t) = zlim c t j := by
  refine zfold_rev2 (G := fun k => zstp c j (zch c t k)) (cnt := fun k => zcv c (zch c t k)) (P := fun _ => True) (fun _ _ _ _ _ _ => trivial) (fun a b ha hb x y hx hy v _ => ?_) (zini j) trivial
  have l1 := (zch_b hn h ht ha).1
  have l2 := (zch_b hn h ht hb).1
  exact znar_rot j (zr_ne (RTk_cv (h _ l2) hy).2.2.1) (zr_ne (RTk_cv (h _ l1) hx).2.2.1)
section PI
variable {τ c : zs} {K n : Nat}
theorem m_setLeft (hn : n ≤ 28) (h : ∀ t, t < n → RTk c (τ 66) K t) {t : Nat} (ht : t < n) {j : Nat} (hj : j = 0 ∨ j = 2) : f_X9_setLeft τ (nI t) (nI j) = some (zlim c t j, τ) := by
  obtain ⟨hl, hl1, hl7⟩ := zln_eq (h t ht)
  have main : zlp3 f_X9_setLeft_16 1000 τ (nI j) (zini j) (nI t) = some (zlim c t j, τ) := by
    rw [← zlim_rev hn h ht, ← zup_0 (h t ht)]
    refine zlr3 (zln c t) (fun _ => τ) (fun _ => nI j) (zlimr c t j) (zup c t) (fun i hi rec => ?_) (fun rec => ?_) 1000 (by omega)
    · obtain ⟨l, e1, e2, e3, e4, e5⟩ := z_road hn h ht hi
      obtain ⟨c1, c2⟩ := zcv_eq (h l e2)
      have hcv := (RT_cav (h l e2)).1
      rw [e4, f_X9_setLeft_16, if_neg (zlt0 (by omega)), zlimr_s, ← e1]
      refine zlr4 (zcv c l) (fun _ => τ) (fun _ => nI j) (fun q => zfold (zstp c j l) (zlimr c t j i) q) (fun _ => nI l) nI (fun q hq rec2 => ?_) (fun rec2 => ?_) 1000 (by omega)
      · have C := RTk_cv (h l e2) hq
        rw [f_X9_setLeft_24]
        simp (disch := omega) only [zk191, nI_add, zg_in, zcl, hcv, c1, znI_le]
        rw [if_neg (by omega), m_part0 τ e3 (by omega), zb_s, C.1.1, m_part1 τ e3 (by omega), zb_s, C.1.2.1, zb_s, nI_1]
        show _ = rec2 τ (nI j) (zstp c j l _ q) (nI l) (nI (q + 1))
        generalize zfold (zstp c j l) (zlimr c t j i) q = v
        rcases hj with rfl | rfl
        · rw [if_neg (show ¬ nI 0 = 2 by decide)]
          simp only [zstp, znar]
          by_cases w : c 10 (l * 4 + q) = 0
          · rw [if_pos (show c 10 (l * 4 + q) = nI 0 from w), if_pos w]
          · rw [if_neg (show ¬ c 10 (l * 4 + q) = nI 0 from w), if_neg w]
        · rw [if_pos (show nI 2 = 2 by decide)]
          simp only [zstp, znar]
          by_cases w : c 10 (l * 4 + q) = 2
          · rw [if_pos (show c 10 (l * 4 + q) = nI 2 from w), if_pos w]
          · rw [if_neg (show ¬ c 10 (l * 4 + q) = nI 2 from w), if_neg w]
      · rw [f_X9_setLeft_24]
        simp (disch := omega) only [zk191, zk79, nI_add, zg_in, zcl, hcv, c1, znI_le, e5]
        rw [if_pos (Nat.le_refl _)]
    · rw [zup_end, f_X9_setLeft_16, if_pos (by decide)]
  rw [f_X9_setLeft]
  rcases hj with rfl | rfl
  · rw [if_neg (by decide)]; exact main
  · rw [if_pos (by decide)]; exact main
theorem m_argumentLeft (hn : n ≤ 28) (h : ∀ t, t < n → RTk c (τ 66) K t) {t : Nat} (ht : t < n) (a : Int32) : f_X9_argumentLeft τ (nI t) a = some ((if zlim c t 4 ≤ zlim c t 5 then (if a = 0 then zlim c t 5 else zlim c t 4) else -1), τ) := by
  obtain ⟨hl, hl1, hl7⟩ := zln_eq (h t ht)
  rw [f_X9_argumentLeft, ← zlim_rev hn h ht, ← zlim_rev hn h ht, ← zup_0 (h t ht)]
  refine zlr4 (zln c t) (fun _ => τ) (fun _ => a) (zlimr c t 4) (zlimr c t 5) (zup c t) (fun i hi rec => ?_) (fun rec => ?_) 1000 (by omega)
  · obtain ⟨l, e1, e2, e3, e4, e5⟩ := z_road hn h ht hi
    obtain ⟨c1, c2⟩ := zcv_eq (h l e2)
    have hcv := (RT_cav (h l e2)).1
    rw [e4, f_X9_argumentLeft_10, if_neg (zlt0 (by omega)), zlimr_s, zlimr_s, ← e1]
    refine zlr5 (zcv c l) (fun _ => τ) (fun _ => a) (fun q => zfold (zstp c 4 l) (zlimr c t 4 i) q) (fun q => zfold (zstp c 5 l) (zlimr c t 5 i) q) (fun _ => nI l) nI (fun q hq rec2 => ?_) (fun rec2 => ?_) 1000 (by omega)
    · have C := RTk_cv (h l e2) hq
      rw [f_X9_argumentLeft_18]
      simp (disch := omega) only [zk191, nI_add, zg_in, zcl, hcv, c1, znI_le]
      rw [if_neg (by omega), m_part0 τ e3 (by omega), zb_s, C.1.1, m_part1 τ e3 (by omega), zb_s, C.1.2.1, m_part2 τ e3 (by omega), zb_s, C.1.2.2, nI_1]
      show _ = rec2 τ a (zstp c 4 l _ q) (zstp c 5 l _ q) (nI l) (nI (q + 1))
      simp only [zstp, znar]
      by_cases w : c 10 (l * 4 + q) = 4
      · simp only [if_pos w]
      · simp only [if_neg w]
    · rw [f_X9_argumentLeft_18]
      simp (disch := omega) only [zk191, zk79, nI_add, zg_in, zcl, hcv, c1, znI_le, e5]
      rw [if_pos (Nat.le_refl _)]
  · rw [zup_end, f_X9_argumentLeft_10, if_pos (by decide)]
    by_cases w : zlimr c t 4 (zln c t) ≤ zlimr c t 5 (zln c t)
    · rw [if_pos w, if_pos w]
      by_cases w2 : a = 0
      · rw [if_pos w2, if_pos w2]
      · rw [if_neg w2, if_neg w2]
    · rw [if_neg w, if_neg w]
theorem m_timesLeft (hn : n ≤ 28) (h : ∀ t, t < n → RTk c (τ 66) K t) {t : Nat} (ht : t < n) : f_X9_timesLeft τ (nI t) = some (zlim c t 3, τ) := by
  obtain ⟨hl, hl1, hl7⟩ := zln_eq (h t ht)
  have mx0 : ∀ x, 0 ≤ zmx x := by
    intro x; unfold zmx
    split
    · rename_i w; exact Int32.le_of_lt w
    · exact Int32.le_refl _
  have P3 : ∀ l q (v : Int32), (v = -1 ∨ 0 ≤ v) → (zstp c 3 l v q = -1 ∨ 0 ≤ zstp c 3 l v q) := by
    intro l q v hv
    simp only [zstp, znar]
    split
    · rw [zles_mn]
      split
      · exact Or.inr (mx0 _)
      · rename_i w
        rcases zmn_or v (zmx (c 11 (l * 4 + q) - c 7 l)) with e | e
        · rw [e]; exact hv
        · rw [e]; exact Or.inr (mx0 _)
    · exact hv
  have P : ∀ i, (zlimr c t 3 i = -1 ∨ 0 ≤ zlimr c t 3 i) := by
    intro i
    exact zfold_P (P := fun v => v = -1 ∨ (0 : Int32) ≤ v) (Or.inl rfl) (fun k _ v hv => zfold_P (P := fun v => v = -1 ∨ (0 : Int32) ≤ v) hv (fun q _ v hv => P3 _ q v hv))
  rw [f_X9_timesLeft, ← zlim_rev hn h ht, ← zup_0 (h t ht)]
  refine zlr2 (zln c t) (fun _ => τ) (zlimr c t 3) (zup c t) (fun i hi rec => ?_) (fun rec => ?_) 1000 (by omega)
  · obtain ⟨l, e1, e2, e3, e4, e5⟩ := z_road hn h ht hi
    obtain ⟨c1, c2⟩ := zcv_eq (h l e2)
    have hcv := (RT_cav (h l e2)).1
    have hus := (RT_use (h l e2)).1
    rw [e4, f_X9_timesLeft_4, if_neg (zlt0 (by omega)), zlimr_s, ← e1]
    refine zlr3 (zcv c l) (fun _ => τ) (fun q => zfold (zstp c 3 l) (zlimr c t 3 i) q) (fun _ => nI l) nI (fun q hq rec2 => ?_) (fun rec2 => ?_) 1000 (by omega)
    · have C := RTk_cv (h l e2) hq
      have Pq : zfold (zstp c 3 l) (zlimr c t 3 i) q = -1 ∨ 0 ≤ zfold (zstp c 3 l) (zlimr c t 3 i) q := zfold_P (P := fun v => v = -1 ∨ (0 : Int32) ≤ v) (P i) (fun q _ v hv => P3 _ q v hv)
      rw [f_X9_timesLeft_11]
      simp (disch := omega) only [zk191, nI_add, zg_in, zcl, hcv, c1, znI_le]
      rw [if_neg (by omega), m_part0 τ e3 (by omega), zb_s, C.1.1, m_part1 τ e3 (by omega), zb_s, C.1.2.1]
      simp (disch := omega) only [zk163, nI_add, zg_in, zcl, hus, nI_1]
      show _ = rec2 τ (zstp c 3 l _ q) (nI l) (nI (q + 1))
      generalize zfold (zstp c 3 l) (zlimr c t 3 i) q = v at Pq
      simp only [zstp, znar]
      by_cases w : c 10 (l * 4 + q) = 3
      · rw [if_pos w, if_pos w, zles_mn]
        rcases Pq with rfl | Pq
        · rw [if_neg (by decide), if_pos rfl]; rfl
        · rw [if_pos Pq, if_neg (show ¬ v = -1 from fun e => by rw [e] at Pq; exact absurd Pq (by decide)), zmn_lt]; rfl
      · rw [if_neg w, if_neg w]
    · rw [f_X9_timesLeft_11]
      simp (disch := omega) only [zk191, zk79, nI_add, zg_in, zcl, hcv, c1, znI_le, e5]
      rw [if_pos (Nat.le_refl _)]
  · rw [zup_end, f_X9_timesLeft_4, if_pos (by decide)]
/-- when a token expires -/
def zest (c : zs) (l : Nat) (v : Int32) (q : Nat) : Int32 := if c 10 (l * 4 + q) = 1 then zmn v (c 11 (l * 4 + q)) else v
def zend (c : zs) (t : Nat) : Int32 := zfold (fun v k => zfold (zest c (zch c t k)) v (zcv c (zch c t k))) 2147483647 (zln c t)
theorem zend_lim {m : Nat → Int32} (hn : n ≤ 28) (h : ∀ t, t < n → RTk c m K t) {t : Nat} (ht : t < n) : (zlim c t 1 = -1 ∧ zend c t = 2147483647) ∨ (zlim c t 1 = zend c t ∧ zr (zend c t) 1000) := by
  refine zfold_R (R := fun v w => (v = -1 ∧ w = (2147483647 : Int32)) ∨ (v = w ∧ zr w 1000)) (Or.inl ⟨rfl, rfl⟩) (fun k hk v w hR => ?_)
  have l1 := (zch_b hn h ht hk).1
  refine zfold_R (R := fun v w => (v = -1 ∧ w = (2147483647 : Int32)) ∨ (v = w ∧ zr w 1000)) hR (fun q hq v w hR => ?_)
  have C := RTk_cv (h _ l1) hq
  simp only [zstp, znar, zest]
  by_cases e : c 10 (zch c t k * 4 + q) = 1
  · simp only [if_pos e]
    have C2 := C.2.2.1
    generalize c 11 (zch c t k * 4 + q) = x at C2
    rcases hR with ⟨rfl, rfl⟩ | ⟨rfl, hr⟩
    · refine Or.inr ⟨?_, ?_⟩
      · rw [zles_mn, if_pos rfl, zmn, if_neg]
        obtain ⟨z, z1, z2, rfl⟩ := C2
        rw [Int32.le_iff_toInt_le, nI_toInt z2]
        have : (2147483647 : Int32).toInt = 2147483647 := by decide
        omega
      · rw [zmn, if_neg]
        · exact C2
        · obtain ⟨z, z1, z2, rfl⟩ := C2
          rw [Int32.le_iff_toInt_le, nI_toInt z2]
          have : (2147483647 : Int32).toInt = 2147483647 := by decide
          omega
    · refine Or.inr ⟨by rw [zles_mn, if_neg (zr_ne hr)], ?_⟩
      rcases zmn_or v x with e | e
      · rw [e]; exact hr
      · rw [e]; exact C2
  · simp only [if_neg e]
    exact hR
theorem m_endOf (hn : n ≤ 28) (h : ∀ t, t < n → RTk c (τ 66) K t) {t : Nat} (ht : t < n) : f_X9_endOf τ (nI t) = some (zend c t, τ) := by
  obtain ⟨hl, hl1, hl7⟩ := zln_eq (h t ht)
  have hrev : zfold (fun v k => zfold (zest c (zch c t (zln c t - 1 - k))) v (zcv c (zch c t (zln c t - 1 - k)))) 2147483647 (zln c t) = zend c t :=
    zfold_rev2 (G := fun k => zest c (zch c t k)) (cnt := fun k => zcv c (zch c t k)) (P := fun _ => True) (fun _ _ _ _ _ _ => trivial) (fun a b ha hb x y hx hy v _ => by
      simp only [zest]
      by_cases p : c 10 (zch c t a * 4 + x) = 1 <;> by_cases q : c 10 (zch c t b * 4 + y) = 1 <;> simp only [p, q, ↓reduceIte]
      exact zmn_rot _ _ _) (2147483647 : Int32) trivial
  rw [f_X9_endOf, ← hrev, ← zup_0 (h t ht)]
  refine zlr2 (zln c t) (fun _ => τ) (fun i => zfold (fun v k => zfold (zest c (zch c t (zln c t - 1 - k))) v (zcv c (zch c t (zln c t - 1 - k)))) 2147483647 i) (zup c t) (fun i hi rec => ?_) (fun rec => ?_) 1000 (by omega)
  · obtain ⟨l, e1, e2, e3, e4, e5⟩ := z_road hn h ht hi
    obtain ⟨c1, c2⟩ := zcv_eq (h l e2)
    have hcv := (RT_cav (h l e2)).1
    show f_X9_endOf_5 rec τ _ (zup c t i) = rec τ (zfold (zest c (zch c t (zln c t - 1 - i))) _ (zcv c (zch c t (zln c t - 1 - i)))) (zup c t (i + 1))
    rw [e4, f_X9_endOf_5, if_neg (zlt0 (by omega)), ← e1]
    generalize zfold (fun v k => zfold (zest c (zch c t (zln c t - 1 - k))) v (zcv c (zch c t (zln c t - 1 - k)))) 2147483647 i = v0
    refine zlr3 (zcv c l) (fun _ => τ) (fun q => zfold (zest c l) v0 q) (fun _ => nI l) nI (fun q hq rec2 => ?_) (fun rec2 => ?_) 1000 (by omega)
    · have C := RTk_cv (h l e2) hq
      rw [f_X9_endOf_12]
      simp (disch := omega) only [zk191, nI_add, zg_in, zcl, hcv, c1, znI_le]
      rw [if_neg (by omega), m_part0 τ e3 (by omega), zb_s, C.1.1, m_part1 τ e3 (by omega), zb_s, C.1.2.1, nI_1, zmn_lt]
      show _ = rec2 τ (zest c l _ q) (nI l) (nI (q + 1))
      simp only [zest]
      by_cases w : c 10 (l * 4 + q) = 1
      · rw [if_pos w, if_pos w]
      · rw [if_neg w, if_neg w]
    · rw [f_X9_endOf_12]
      simp (disch := omega) only [zk191, zk79, nI_add, zg_in, zcl, hcv, c1, znI_le, e5]
      rw [if_pos (Nat.le_refl _)]
  · rw [zup_end, f_X9_endOf_5, if_pos (by decide)]
end PI
