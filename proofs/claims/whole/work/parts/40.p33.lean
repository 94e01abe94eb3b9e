/-! the law's cases -/
theorem z_endQ {Q : Option (Int32 × zs) → Prop} {x : Option (Int32 × zs)} {g : zs → Option (Int32 × zs)} {K v : Nat} {K23 : zs → Int32 → Option (Int32 × zs)} (h : zok x g K) (hk : ∀ σ', RA σ' K → Q (K23 σ' (nI (v + 5)))) :
    Q (zb x (fun r2 σ3 => zb (g σ3) (fun r5 σ6 => zb (f_X9_thrown σ6) (fun r8 σ9 => if r8 = r2 then (if r2 = 0 then (zg (zin (0 : Int32) 1) (if (lg_cmp (σ9 75 (0 : Int32).toNatClampNeg).toInt64 r5.toInt64) = 0 then (K23 σ9 (nI v + (5 : Int32))) else (some ((0 : Int32), σ9)))) else (K23 σ9 (nI v + (5 : Int32)))) else (some ((0 : Int32), σ9)))))) := by
  obtain ⟨k, σ1, r, σ2, e1, e2, e3, e4, R⟩ := h
  have e5 : nI v + (5 : Int32) = nI (v + 5) := by rw [zk5, nI_add]
  rw [e1, zb_s, e2, zb_s, f_X9_thrown, zb_s, if_pos e3, e5]
  by_cases hk0 : k = 0
  · rw [if_pos hk0, zg_0 _ (by decide), zcl0, if_pos (z_cmp (e4 hk0))]
    exact hk σ2 R
  · rw [if_neg hk0]
    exact hk σ2 R
theorem z_endbQ {Q : Option (Int32 × zs) → Prop} {x : Option (Int32 × zs)} {g : zs → Option (Int32 × zs)} {K v : Nat} {K23 : zs → Int32 → Option (Int32 × zs)} (h : zokb x g K) (hk : ∀ σ', RA σ' K → Q (K23 σ' (nI (v + 5)))) :
    Q (zb x (fun r2 σ3 => zb (g σ3) (fun r5 σ6 => zb (f_X9_thrown σ6) (fun r8 σ9 => if r8 = r2 then (if r2 = 0 then (zg (zin (0 : Int32) 1) (if r5 = 0 then (if (lg_cmp (σ9 75 (0 : Int32).toNatClampNeg).toInt64 (0 : Int32).toInt64) = 0 then (K23 σ9 (nI v + (5 : Int32))) else (some ((0 : Int32), σ9))) else (if (lg_cmp (σ9 75 (0 : Int32).toNatClampNeg).toInt64 (1 : Int32).toInt64) = 0 then (K23 σ9 (nI v + (5 : Int32))) else (some ((0 : Int32), σ9))))) else (K23 σ9 (nI v + (5 : Int32)))) else (some ((0 : Int32), σ9)))))) := by
  obtain ⟨k, σ1, r, σ2, e1, e2, e3, e4, R⟩ := h
  have e5 : nI v + (5 : Int32) = nI (v + 5) := by rw [zk5, nI_add]
  rw [e1, zb_s, e2, zb_s, f_X9_thrown, zb_s, if_pos e3, e5]
  by_cases hk0 : k = 0
  · obtain ⟨e6, e7⟩ := e4 hk0
    rw [if_pos hk0, zg_0 _ (by decide), zcl0]
    rcases e7 with rfl | rfl
    · rw [if_pos rfl, if_pos (z_cmp e6)]
      exact hk σ2 R
    · rw [if_neg (by decide), if_pos (z_cmp e6)]
      exact hk σ2 R
  · rw [if_neg hk0]
    exact hk σ2 R
section PL
variable {L K v : Nat} {xs : Nat → Int32} {K23 : zs → Int32 → Option (Int32 × zs)} {Q : Option (Int32 × zs) → Prop} {σ : zs}
theorem l_200 (hL : L ≤ 2560) (hv : v + 5 ≤ L) (hK : K < 1000) (R : RA σ K) (hk : ∀ σ', RA σ' (K + 1) → Q (K23 σ' (nI (v + 5)))) : Q (f_L_law_200 L xs K23 σ (nI v)) := by
  have e1 : nI v + (1 : Int32) = nI (v + 1) := nI_1 v
  have e2 : nI v + (2 : Int32) = nI (v + 2) := by rw [zk2, nI_add]
  have e3 : nI v + (3 : Int32) = nI (v + 3) := by rw [zk3, nI_add]
  have e4 : nI v + (4 : Int32) = nI (v + 4) := by rw [zk4, nI_add]
  have e5 : nI v + (5 : Int32) = nI (v + 5) := by rw [zk5, nI_add]
  rw [f_L_law_200]
  simp (disch := omega) only [e1, e2, e3, e4, zg_in, zcl]
  exact z_endQ (k_mint R _ _ _) hk
theorem l_280 (hL : L ≤ 2560) (hv : v + 5 ≤ L) (hK : K < 1000) (R : RA σ K) (hk : ∀ σ', RA σ' (K + 1) → Q (K23 σ' (nI (v + 5)))) : Q (f_L_law_280 L xs K23 σ (nI v)) := by
  have e1 : nI v + (1 : Int32) = nI (v + 1) := nI_1 v
  have e2 : nI v + (2 : Int32) = nI (v + 2) := by rw [zk2, nI_add]
  have e3 : nI v + (3 : Int32) = nI (v + 3) := by rw [zk3, nI_add]
  have e4 : nI v + (4 : Int32) = nI (v + 4) := by rw [zk4, nI_add]
  have e5 : nI v + (5 : Int32) = nI (v + 5) := by rw [zk5, nI_add]
  rw [f_L_law_280]
  simp (disch := omega) only [e1, e2, e3, e4, zg_in, zcl]
  exact z_endQ (k_append R _) hk
theorem l_336 (hL : L ≤ 2560) (hv : v + 5 ≤ L) (hK : K < 1000) (R : RA σ K) (hk : ∀ σ', RA σ' (K + 1) → Q (K23 σ' (nI (v + 5)))) : Q (f_L_law_336 L xs K23 σ (nI v)) := by
  have e1 : nI v + (1 : Int32) = nI (v + 1) := nI_1 v
  have e2 : nI v + (2 : Int32) = nI (v + 2) := by rw [zk2, nI_add]
  have e3 : nI v + (3 : Int32) = nI (v + 3) := by rw [zk3, nI_add]
  have e4 : nI v + (4 : Int32) = nI (v + 4) := by rw [zk4, nI_add]
  have e5 : nI v + (5 : Int32) = nI (v + 5) := by rw [zk5, nI_add]
  rw [f_L_law_336]
  simp (disch := omega) only [e1, e2, e3, e4, zg_in, zcl]
  exact z_endQ (k_derive R _ _) hk
theorem l_404 (hL : L ≤ 2560) (hv : v + 5 ≤ L) (hK : K < 1000) (R : RA σ K) (hk : ∀ σ', RA σ' (K + 1) → Q (K23 σ' (nI (v + 5)))) : Q (f_L_law_404 L xs K23 σ (nI v)) := by
  have e1 : nI v + (1 : Int32) = nI (v + 1) := nI_1 v
  have e2 : nI v + (2 : Int32) = nI (v + 2) := by rw [zk2, nI_add]
  have e3 : nI v + (3 : Int32) = nI (v + 3) := by rw [zk3, nI_add]
  have e4 : nI v + (4 : Int32) = nI (v + 4) := by rw [zk4, nI_add]
  have e5 : nI v + (5 : Int32) = nI (v + 5) := by rw [zk5, nI_add]
  rw [f_L_law_404, f_X8_errorPosition, zb_s, f_X9_errorPosition, zb_s, zp_o _ _ (show (6 : Nat) ≠ 3 by decide), if_pos R.2.2.2.1.2.symm, e5]
  exact hk _ (RA_q R (zQx_refl σ) (zMx_3 σ 0))
theorem l_417 (hL : L ≤ 2560) (hv : v + 5 ≤ L) (hK : K < 1000) (R : RA σ K) (hk : ∀ σ', RA σ' (K + 1) → Q (K23 σ' (nI (v + 5)))) : Q (f_L_law_417 L xs K23 σ (nI v)) := by
  have e1 : nI v + (1 : Int32) = nI (v + 1) := nI_1 v
  have e2 : nI v + (2 : Int32) = nI (v + 2) := by rw [zk2, nI_add]
  have e3 : nI v + (3 : Int32) = nI (v + 3) := by rw [zk3, nI_add]
  have e4 : nI v + (4 : Int32) = nI (v + 4) := by rw [zk4, nI_add]
  have e5 : nI v + (5 : Int32) = nI (v + 5) := by rw [zk5, nI_add]
  rw [f_L_law_417]
  simp (disch := omega) only [e1, e2, e3, e4, zg_in, zcl]
  exact z_endQ (k_give R _ _ _) hk
theorem l_497 (hL : L ≤ 2560) (hv : v + 5 ≤ L) (hK : K < 1000) (R : RA σ K) (hk : ∀ σ', RA σ' (K + 1) → Q (K23 σ' (nI (v + 5)))) : Q (f_L_law_497 L xs K23 σ (nI v)) := by
  have e1 : nI v + (1 : Int32) = nI (v + 1) := nI_1 v
  have e2 : nI v + (2 : Int32) = nI (v + 2) := by rw [zk2, nI_add]
  have e3 : nI v + (3 : Int32) = nI (v + 3) := by rw [zk3, nI_add]
  have e4 : nI v + (4 : Int32) = nI (v + 4) := by rw [zk4, nI_add]
  have e5 : nI v + (5 : Int32) = nI (v + 5) := by rw [zk5, nI_add]
  rw [f_L_law_497]
  simp (disch := omega) only [e1, e2, e3, e4, zg_in, zcl]
  exact z_endQ (k_drop R _ _) hk
theorem l_565 (hL : L ≤ 2560) (hv : v + 5 ≤ L) (hK : K < 1000) (R : RA σ K) (hk : ∀ σ', RA σ' (K + 1) → Q (K23 σ' (nI (v + 5)))) : Q (f_L_law_565 L xs K23 σ (nI v)) := by
  have e1 : nI v + (1 : Int32) = nI (v + 1) := nI_1 v
  have e2 : nI v + (2 : Int32) = nI (v + 2) := by rw [zk2, nI_add]
  have e3 : nI v + (3 : Int32) = nI (v + 3) := by rw [zk3, nI_add]
  have e4 : nI v + (4 : Int32) = nI (v + 4) := by rw [zk4, nI_add]
  have e5 : nI v + (5 : Int32) = nI (v + 5) := by rw [zk5, nI_add]
  rw [f_L_law_565]
  simp (disch := omega) only [e1, e2, e3, e4, zg_in, zcl]
  exact z_endQ (k_revoke R _ _) hk
theorem l_633 (hL : L ≤ 2560) (hv : v + 5 ≤ L) (hK : K < 1000) (R : RA σ K) (hk : ∀ σ', RA σ' (K + 1) → Q (K23 σ' (nI (v + 5)))) : Q (f_L_law_633 L xs K23 σ (nI v)) := by
  have e1 : nI v + (1 : Int32) = nI (v + 1) := nI_1 v
  have e2 : nI v + (2 : Int32) = nI (v + 2) := by rw [zk2, nI_add]
  have e3 : nI v + (3 : Int32) = nI (v + 3) := by rw [zk3, nI_add]
  have e4 : nI v + (4 : Int32) = nI (v + 4) := by rw [zk4, nI_add]
  have e5 : nI v + (5 : Int32) = nI (v + 5) := by rw [zk5, nI_add]
  rw [f_L_law_633]
  simp (disch := omega) only [e1, e2, e3, e4, zg_in, zcl]
  exact z_endQ (k_token R _ _) hk
theorem l_701 (hL : L ≤ 2560) (hv : v + 5 ≤ L) (hK : K < 1000) (R : RA σ K) (hk : ∀ σ', RA σ' (K + 1) → Q (K23 σ' (nI (v + 5)))) : Q (f_L_law_701 L xs K23 σ (nI v)) := by
  have e1 : nI v + (1 : Int32) = nI (v + 1) := nI_1 v
  have e2 : nI v + (2 : Int32) = nI (v + 2) := by rw [zk2, nI_add]
  have e3 : nI v + (3 : Int32) = nI (v + 3) := by rw [zk3, nI_add]
  have e4 : nI v + (4 : Int32) = nI (v + 4) := by rw [zk4, nI_add]
  have e5 : nI v + (5 : Int32) = nI (v + 5) := by rw [zk5, nI_add]
  rw [f_L_law_701]
  simp (disch := omega) only [e1, e2, e3, e4, zg_in, zcl]
  exact z_endQ (k_caveat R _ _ _) hk
theorem l_781 (hL : L ≤ 2560) (hv : v + 5 ≤ L) (hK : K < 1000) (R : RA σ K) (hk : ∀ σ', RA σ' (K + 1) → Q (K23 σ' (nI (v + 5)))) : Q (f_L_law_781 L xs K23 σ (nI v)) := by
  have e1 : nI v + (1 : Int32) = nI (v + 1) := nI_1 v
  have e2 : nI v + (2 : Int32) = nI (v + 2) := by rw [zk2, nI_add]
  have e3 : nI v + (3 : Int32) = nI (v + 3) := by rw [zk3, nI_add]
  have e4 : nI v + (4 : Int32) = nI (v + 4) := by rw [zk4, nI_add]
  have e5 : nI v + (5 : Int32) = nI (v + 5) := by rw [zk5, nI_add]
  rw [f_L_law_781]
  simp (disch := omega) only [e1, e2, e3, e4, zg_in, zcl]
  exact z_endQ (k_describe R _ _) hk
theorem l_849 (hL : L ≤ 2560) (hv : v + 5 ≤ L) (hK : K < 1000) (R : RA σ K) (hk : ∀ σ', RA σ' (K + 1) → Q (K23 σ' (nI (v + 5)))) : Q (f_L_law_849 L xs K23 σ (nI v)) := by
  have e1 : nI v + (1 : Int32) = nI (v + 1) := nI_1 v
  have e2 : nI v + (2 : Int32) = nI (v + 2) := by rw [zk2, nI_add]
  have e3 : nI v + (3 : Int32) = nI (v + 3) := by rw [zk3, nI_add]
  have e4 : nI v + (4 : Int32) = nI (v + 4) := by rw [zk4, nI_add]
  have e5 : nI v + (5 : Int32) = nI (v + 5) := by rw [zk5, nI_add]
  rw [f_L_law_849]
  simp (disch := omega) only [e1, e2, e3, e4, zg_in, zcl]
  exact z_endQ (k_left R _ _) hk
theorem l_917 (hL : L ≤ 2560) (hv : v + 5 ≤ L) (hK : K < 1000) (R : RA σ K) (hk : ∀ σ', RA σ' (K + 1) → Q (K23 σ' (nI (v + 5)))) : Q (f_L_law_917 L xs K23 σ (nI v)) := by
  have e1 : nI v + (1 : Int32) = nI (v + 1) := nI_1 v
  have e2 : nI v + (2 : Int32) = nI (v + 2) := by rw [zk2, nI_add]
  have e3 : nI v + (3 : Int32) = nI (v + 3) := by rw [zk3, nI_add]
  have e4 : nI v + (4 : Int32) = nI (v + 4) := by rw [zk4, nI_add]
  have e5 : nI v + (5 : Int32) = nI (v + 5) := by rw [zk5, nI_add]
  rw [f_L_law_917]
  simp (disch := omega) only [e1, e2, e3, e4, zg_in, zcl]
  exact z_endQ (k_holders R _) hk
theorem l_973 (hL : L ≤ 2560) (hv : v + 5 ≤ L) (hK : K < 1000) (R : RA σ K) (hk : ∀ σ', RA σ' (K + 1) → Q (K23 σ' (nI (v + 5)))) : Q (f_L_law_973 L xs K23 σ (nI v)) := by
  have e1 : nI v + (1 : Int32) = nI (v + 1) := nI_1 v
  have e2 : nI v + (2 : Int32) = nI (v + 2) := by rw [zk2, nI_add]
  have e3 : nI v + (3 : Int32) = nI (v + 3) := by rw [zk3, nI_add]
  have e4 : nI v + (4 : Int32) = nI (v + 4) := by rw [zk4, nI_add]
  have e5 : nI v + (5 : Int32) = nI (v + 5) := by rw [zk5, nI_add]
  rw [f_L_law_973]
  simp (disch := omega) only [e1, e2, e3, e4, zg_in, zcl]
  exact z_endQ (k_held R _) hk
theorem l_1029 (hL : L ≤ 2560) (hv : v + 5 ≤ L) (hK : K < 1000) (R : RA σ K) (hk : ∀ σ', RA σ' (K + 1) → Q (K23 σ' (nI (v + 5)))) : Q (f_L_law_1029 L xs K23 σ (nI v)) := by
  have e1 : nI v + (1 : Int32) = nI (v + 1) := nI_1 v
  have e2 : nI v + (2 : Int32) = nI (v + 2) := by rw [zk2, nI_add]
  have e3 : nI v + (3 : Int32) = nI (v + 3) := by rw [zk3, nI_add]
  have e4 : nI v + (4 : Int32) = nI (v + 4) := by rw [zk4, nI_add]
  have e5 : nI v + (5 : Int32) = nI (v + 5) := by rw [zk5, nI_add]
  rw [f_L_law_1029]
  simp (disch := omega) only [e1, e2, e3, e4, zg_in, zcl]
  exact z_endQ (k_below R _) hk
theorem l_1085 (hL : L ≤ 2560) (hv : v + 5 ≤ L) (hK : K < 1000) (R : RA σ K) (hk : ∀ σ', RA σ' (K + 1) → Q (K23 σ' (nI (v + 5)))) : Q (f_L_law_1085 L xs K23 σ (nI v)) := by
  have e1 : nI v + (1 : Int32) = nI (v + 1) := nI_1 v
  have e2 : nI v + (2 : Int32) = nI (v + 2) := by rw [zk2, nI_add]
  have e3 : nI v + (3 : Int32) = nI (v + 3) := by rw [zk3, nI_add]
  have e4 : nI v + (4 : Int32) = nI (v + 4) := by rw [zk4, nI_add]
  have e5 : nI v + (5 : Int32) = nI (v + 5) := by rw [zk5, nI_add]
  rw [f_L_law_1085]
  simp (disch := omega) only [e1, e2, e3, e4, zg_in, zcl]
  exact z_endQ (k_ranked R _) hk
theorem l_1141 (hL : L ≤ 2560) (hv : v + 5 ≤ L) (hK : K < 1000) (R : RA σ K) (hk : ∀ σ', RA σ' (K + 1) → Q (K23 σ' (nI (v + 5)))) : Q (f_L_law_1141 L xs K23 σ (nI v)) := by
  have e1 : nI v + (1 : Int32) = nI (v + 1) := nI_1 v
  have e2 : nI v + (2 : Int32) = nI (v + 2) := by rw [zk2, nI_add]
  have e3 : nI v + (3 : Int32) = nI (v + 3) := by rw [zk3, nI_add]
  have e4 : nI v + (4 : Int32) = nI (v + 4) := by rw [zk4, nI_add]
  have e5 : nI v + (5 : Int32) = nI (v + 5) := by rw [zk5, nI_add]
  rw [f_L_law_1141]
  simp (disch := omega) only [e1, e2, e3, e4, zg_in, zcl]
  exact z_endQ (k_request hK R _ _ _ _) hk
theorem l_1233 (hL : L ≤ 2560) (hv : v + 5 ≤ L) (hK : K < 1000) (R : RA σ K) (hk : ∀ σ', RA σ' (K + 1) → Q (K23 σ' (nI (v + 5)))) : Q (f_L_law_1233 L xs K23 σ (nI v)) := by
  have e1 : nI v + (1 : Int32) = nI (v + 1) := nI_1 v
  have e2 : nI v + (2 : Int32) = nI (v + 2) := by rw [zk2, nI_add]
  have e3 : nI v + (3 : Int32) = nI (v + 3) := by rw [zk3, nI_add]
  have e4 : nI v + (4 : Int32) = nI (v + 4) := by rw [zk4, nI_add]
  have e5 : nI v + (5 : Int32) = nI (v + 5) := by rw [zk5, nI_add]
  rw [f_L_law_1233]
  simp (disch := omega) only [e1, e2, e3, e4, zg_in, zcl]
  exact z_endQ (k_object R _ _) hk
theorem l_1301 (hL : L ≤ 2560) (hv : v + 5 ≤ L) (hK : K < 1000) (R : RA σ K) (hk : ∀ σ', RA σ' (K + 1) → Q (K23 σ' (nI (v + 5)))) : Q (f_L_law_1301 L xs K23 σ (nI v)) := by
  have e1 : nI v + (1 : Int32) = nI (v + 1) := nI_1 v
  have e2 : nI v + (2 : Int32) = nI (v + 2) := by rw [zk2, nI_add]
  have e3 : nI v + (3 : Int32) = nI (v + 3) := by rw [zk3, nI_add]
  have e4 : nI v + (4 : Int32) = nI (v + 4) := by rw [zk4, nI_add]
  have e5 : nI v + (5 : Int32) = nI (v + 5) := by rw [zk5, nI_add]
  rw [f_L_law_1301]
  simp (disch := omega) only [e1, e2, e3, e4, zg_in, zcl]
  exact z_endQ (k_pass hK R _) hk
theorem l_1357 (hL : L ≤ 2560) (hv : v + 5 ≤ L) (hK : K < 1000) (R : RA σ K) (hk : ∀ σ', RA σ' (K + 1) → Q (K23 σ' (nI (v + 5)))) : Q (f_L_law_1357 L xs K23 σ (nI v)) := by
  have e1 : nI v + (1 : Int32) = nI (v + 1) := nI_1 v
  have e2 : nI v + (2 : Int32) = nI (v + 2) := by rw [zk2, nI_add]
  have e3 : nI v + (3 : Int32) = nI (v + 3) := by rw [zk3, nI_add]
  have e4 : nI v + (4 : Int32) = nI (v + 4) := by rw [zk4, nI_add]
  have e5 : nI v + (5 : Int32) = nI (v + 5) := by rw [zk5, nI_add]
  rw [f_L_law_1357]
  simp (disch := omega) only [e1, e2, e3, e4, zg_in, zcl]
  exact z_endQ (k_expired R _) hk
theorem l_1413 (hL : L ≤ 2560) (hv : v + 5 ≤ L) (hK : K < 1000) (R : RA σ K) (hk : ∀ σ', RA σ' (K + 1) → Q (K23 σ' (nI (v + 5)))) : Q (f_L_law_1413 L xs K23 σ (nI v)) := by
  have e1 : nI v + (1 : Int32) = nI (v + 1) := nI_1 v
  have e2 : nI v + (2 : Int32) = nI (v + 2) := by rw [zk2, nI_add]
  have e3 : nI v + (3 : Int32) = nI (v + 3) := by rw [zk3, nI_add]
  have e4 : nI v + (4 : Int32) = nI (v + 4) := by rw [zk4, nI_add]
  have e5 : nI v + (5 : Int32) = nI (v + 5) := by rw [zk5, nI_add]
  rw [f_L_law_1413]
  simp (disch := omega) only [e1, e2, e3, e4, zg_in, zcl]
  exact z_endQ (k_log R _) hk
theorem l_1469 (hL : L ≤ 2560) (hv : v + 5 ≤ L) (hK : K < 1000) (R : RA σ K) (hk : ∀ σ', RA σ' (K + 1) → Q (K23 σ' (nI (v + 5)))) : Q (f_L_law_1469 L xs K23 σ (nI v)) := by
  have e1 : nI v + (1 : Int32) = nI (v + 1) := nI_1 v
  have e2 : nI v + (2 : Int32) = nI (v + 2) := by rw [zk2, nI_add]
  have e3 : nI v + (3 : Int32) = nI (v + 3) := by rw [zk3, nI_add]
  have e4 : nI v + (4 : Int32) = nI (v + 4) := by rw [zk4, nI_add]
  have e5 : nI v + (5 : Int32) = nI (v + 5) := by rw [zk5, nI_add]
  rw [f_L_law_1469]
  by_cases q : xs (v + 2) = 0
  · simp (disch := omega) only [e1, e2, e3, e4, zg_in, zcl, if_pos q]
    exact z_endQ (k_logged R _ (b := 0) (by decide)) hk
  · simp (disch := omega) only [e1, e2, e3, e4, zg_in, zcl, if_neg q]
    exact z_endQ (k_logged R _ (b := 1) (by decide)) hk
theorem l_1553 (hL : L ≤ 2560) (hv : v + 5 ≤ L) (hK : K < 1000) (R : RA σ K) (hk : ∀ σ', RA σ' (K + 1) → Q (K23 σ' (nI (v + 5)))) : Q (f_L_law_1553 L xs K23 σ (nI v)) := by
  have e1 : nI v + (1 : Int32) = nI (v + 1) := nI_1 v
  have e2 : nI v + (2 : Int32) = nI (v + 2) := by rw [zk2, nI_add]
  have e3 : nI v + (3 : Int32) = nI (v + 3) := by rw [zk3, nI_add]
  have e4 : nI v + (4 : Int32) = nI (v + 4) := by rw [zk4, nI_add]
  have e5 : nI v + (5 : Int32) = nI (v + 5) := by rw [zk5, nI_add]
  obtain ⟨d, -, ⟨d1, d2⟩, -⟩ := R.2.2.1
  rw [f_L_law_1553, f_X8_levels, zb_s, f_X9_levels, zb_s, zp_o _ _ (show (10 : Nat) ≠ 3 by decide), if_pos (d1.trans d2.symm), e5]
  exact hk _ (RA_q R (zQx_refl σ) (zMx_3 σ 0))
theorem l_1566 (hL : L ≤ 2560) (hv : v + 5 ≤ L) (hK : K < 1000) (R : RA σ K) (hk : ∀ σ', RA σ' (K + 1) → Q (K23 σ' (nI (v + 5)))) : Q (f_L_law_1566 L xs K23 σ (nI v)) := by
  have e1 : nI v + (1 : Int32) = nI (v + 1) := nI_1 v
  have e2 : nI v + (2 : Int32) = nI (v + 2) := by rw [zk2, nI_add]
  have e3 : nI v + (3 : Int32) = nI (v + 3) := by rw [zk3, nI_add]
  have e4 : nI v + (4 : Int32) = nI (v + 4) := by rw [zk4, nI_add]
  have e5 : nI v + (5 : Int32) = nI (v + 5) := by rw [zk5, nI_add]
  rw [f_L_law_1566]
  simp (disch := omega) only [e1, e2, e3, e4, zg_in, zcl]
  exact z_endQ (k_report R _ _) hk
theorem l_1634 (hL : L ≤ 2560) (hv : v + 5 ≤ L) (hK : K < 1000) (R : RA σ K) (hk : ∀ σ', RA σ' (K + 1) → Q (K23 σ' (nI (v + 5)))) : Q (f_L_law_1634 L xs K23 σ (nI v)) := by
  have e1 : nI v + (1 : Int32) = nI (v + 1) := nI_1 v
  have e2 : nI v + (2 : Int32) = nI (v + 2) := by rw [zk2, nI_add]
  have e3 : nI v + (3 : Int32) = nI (v + 3) := by rw [zk3, nI_add]
  have e4 : nI v + (4 : Int32) = nI (v + 4) := by rw [zk4, nI_add]
  have e5 : nI v + (5 : Int32) = nI (v + 5) := by rw [zk5, nI_add]
  rw [f_L_law_1634]
  simp (disch := omega) only [e1, e2, e3, e4, zg_in, zcl]
  exact z_endQ (k_makePair R _) hk
theorem l_1690 (hL : L ≤ 2560) (hv : v + 5 ≤ L) (hK : K < 1000) (R : RA σ K) (hk : ∀ σ', RA σ' (K + 1) → Q (K23 σ' (nI (v + 5)))) : Q (f_L_law_1690 L xs K23 σ (nI v)) := by
  have e1 : nI v + (1 : Int32) = nI (v + 1) := nI_1 v
  have e2 : nI v + (2 : Int32) = nI (v + 2) := by rw [zk2, nI_add]
  have e3 : nI v + (3 : Int32) = nI (v + 3) := by rw [zk3, nI_add]
  have e4 : nI v + (4 : Int32) = nI (v + 4) := by rw [zk4, nI_add]
  have e5 : nI v + (5 : Int32) = nI (v + 5) := by rw [zk5, nI_add]
  rw [f_L_law_1690]
  by_cases q : xs (v + 4) = 0
  · simp (disch := omega) only [e1, e2, e3, e4, zg_in, zcl, if_pos q]
    exact z_endQ (k_givePair R _ _ _ (u := 0) (by decide)) hk
  · simp (disch := omega) only [e1, e2, e3, e4, zg_in, zcl, if_neg q]
    exact z_endQ (k_givePair R _ _ _ (u := 1) (by decide)) hk
theorem l_1798 (hL : L ≤ 2560) (hv : v + 5 ≤ L) (hK : K < 1000) (R : RA σ K) (hk : ∀ σ', RA σ' (K + 1) → Q (K23 σ' (nI (v + 5)))) : Q (f_L_law_1798 L xs K23 σ (nI v)) := by
  have e1 : nI v + (1 : Int32) = nI (v + 1) := nI_1 v
  have e2 : nI v + (2 : Int32) = nI (v + 2) := by rw [zk2, nI_add]
  have e3 : nI v + (3 : Int32) = nI (v + 3) := by rw [zk3, nI_add]
  have e4 : nI v + (4 : Int32) = nI (v + 4) := by rw [zk4, nI_add]
  have e5 : nI v + (5 : Int32) = nI (v + 5) := by rw [zk5, nI_add]
  rw [f_L_law_1798]
  simp (disch := omega) only [e1, e2, e3, e4, zg_in, zcl]
  exact z_endQ (k_seal R _ _ _) hk
theorem l_1878 (hL : L ≤ 2560) (hv : v + 5 ≤ L) (hK : K < 1000) (R : RA σ K) (hk : ∀ σ', RA σ' (K + 1) → Q (K23 σ' (nI (v + 5)))) : Q (f_L_law_1878 L xs K23 σ (nI v)) := by
  have e1 : nI v + (1 : Int32) = nI (v + 1) := nI_1 v
  have e2 : nI v + (2 : Int32) = nI (v + 2) := by rw [zk2, nI_add]
  have e3 : nI v + (3 : Int32) = nI (v + 3) := by rw [zk3, nI_add]
  have e4 : nI v + (4 : Int32) = nI (v + 4) := by rw [zk4, nI_add]
  have e5 : nI v + (5 : Int32) = nI (v + 5) := by rw [zk5, nI_add]
  rw [f_L_law_1878]
  simp (disch := omega) only [e1, e2, e3, e4, zg_in, zcl]
  exact z_endQ (k_giveBox R _ _ _) hk
theorem l_1958 (hL : L ≤ 2560) (hv : v + 5 ≤ L) (hK : K < 1000) (R : RA σ K) (hk : ∀ σ', RA σ' (K + 1) → Q (K23 σ' (nI (v + 5)))) : Q (f_L_law_1958 L xs K23 σ (nI v)) := by
  have e1 : nI v + (1 : Int32) = nI (v + 1) := nI_1 v
  have e2 : nI v + (2 : Int32) = nI (v + 2) := by rw [zk2, nI_add]
  have e3 : nI v + (3 : Int32) = nI (v + 3) := by rw [zk3, nI_add]
  have e4 : nI v + (4 : Int32) = nI (v + 4) := by rw [zk4, nI_add]
  have e5 : nI v + (5 : Int32) = nI (v + 5) := by rw [zk5, nI_add]
  rw [f_L_law_1958]
  simp (disch := omega) only [e1, e2, e3, e4, zg_in, zcl]
  exact z_endQ (k_unseal R _ _) hk
theorem l_2026 (hL : L ≤ 2560) (hv : v + 5 ≤ L) (hK : K < 1000) (R : RA σ K) (hk : ∀ σ', RA σ' (K + 1) → Q (K23 σ' (nI (v + 5)))) : Q (f_L_law_2026 L xs K23 σ (nI v)) := by
  have e1 : nI v + (1 : Int32) = nI (v + 1) := nI_1 v
  have e2 : nI v + (2 : Int32) = nI (v + 2) := by rw [zk2, nI_add]
  have e3 : nI v + (3 : Int32) = nI (v + 3) := by rw [zk3, nI_add]
  have e4 : nI v + (4 : Int32) = nI (v + 4) := by rw [zk4, nI_add]
  have e5 : nI v + (5 : Int32) = nI (v + 5) := by rw [zk5, nI_add]
  rw [f_L_law_2026]
  simp (disch := omega) only [e1, e2, e3, e4, zg_in, zcl]
  exact z_endQ (k_pairOf R _) hk
theorem l_2082 (hL : L ≤ 2560) (hv : v + 5 ≤ L) (hK : K < 1000) (R : RA σ K) (hk : ∀ σ', RA σ' (K + 1) → Q (K23 σ' (nI (v + 5)))) : Q (f_L_law_2082 L xs K23 σ (nI v)) := by
  have e1 : nI v + (1 : Int32) = nI (v + 1) := nI_1 v
  have e2 : nI v + (2 : Int32) = nI (v + 2) := by rw [zk2, nI_add]
  have e3 : nI v + (3 : Int32) = nI (v + 3) := by rw [zk3, nI_add]
  have e4 : nI v + (4 : Int32) = nI (v + 4) := by rw [zk4, nI_add]
  have e5 : nI v + (5 : Int32) = nI (v + 5) := by rw [zk5, nI_add]
  rw [f_L_law_2082]
  simp (disch := omega) only [e1, e2, e3, e4, zg_in, zcl]
  exact z_endQ (k_rights hK R _ _) hk
theorem l_2150 (hL : L ≤ 2560) (hv : v + 5 ≤ L) (hK : K < 1000) (R : RA σ K) (hk : ∀ σ', RA σ' (K + 1) → Q (K23 σ' (nI (v + 5)))) : Q (f_L_law_2150 L xs K23 σ (nI v)) := by
  have e1 : nI v + (1 : Int32) = nI (v + 1) := nI_1 v
  have e2 : nI v + (2 : Int32) = nI (v + 2) := by rw [zk2, nI_add]
  have e3 : nI v + (3 : Int32) = nI (v + 3) := by rw [zk3, nI_add]
  have e4 : nI v + (4 : Int32) = nI (v + 4) := by rw [zk4, nI_add]
  have e5 : nI v + (5 : Int32) = nI (v + 5) := by rw [zk5, nI_add]
  rw [f_L_law_2150]
  simp (disch := omega) only [e1, e2, e3, e4, zg_in, zcl]
  exact z_endQ (k_coming hK R _) hk
theorem l_2206 (hL : L ≤ 2560) (hv : v + 5 ≤ L) (hK : K < 1000) (R : RA σ K) (hk : ∀ σ', RA σ' (K + 1) → Q (K23 σ' (nI (v + 5)))) : Q (f_L_law_2206 L xs K23 σ (nI v)) := by
  have e1 : nI v + (1 : Int32) = nI (v + 1) := nI_1 v
  have e2 : nI v + (2 : Int32) = nI (v + 2) := by rw [zk2, nI_add]
  have e3 : nI v + (3 : Int32) = nI (v + 3) := by rw [zk3, nI_add]
  have e4 : nI v + (4 : Int32) = nI (v + 4) := by rw [zk4, nI_add]
  have e5 : nI v + (5 : Int32) = nI (v + 5) := by rw [zk5, nI_add]
  rw [f_L_law_2206]
  simp (disch := omega) only [e1, e2, e3, e4, zg_in, zcl]
  exact z_endQ (k_round hK R _ _) hk
theorem l_2274 (hL : L ≤ 2560) (hv : v + 5 ≤ L) (hK : K < 1000) (R : RA σ K) (hk : ∀ σ', RA σ' (K + 1) → Q (K23 σ' (nI (v + 5)))) : Q (f_L_law_2274 L xs K23 σ (nI v)) := by
  have e1 : nI v + (1 : Int32) = nI (v + 1) := nI_1 v
  have e2 : nI v + (2 : Int32) = nI (v + 2) := by rw [zk2, nI_add]
  have e3 : nI v + (3 : Int32) = nI (v + 3) := by rw [zk3, nI_add]
  have e4 : nI v + (4 : Int32) = nI (v + 4) := by rw [zk4, nI_add]
  have e5 : nI v + (5 : Int32) = nI (v + 5) := by rw [zk5, nI_add]
  rw [f_L_law_2274]
  simp (disch := omega) only [e1, e2, e3, e4, zg_in, zcl]
  exact z_endQ (k_reached hK R _) hk
theorem l_2330 (hL : L ≤ 2560) (hv : v + 5 ≤ L) (hK : K < 1000) (R : RA σ K) (hk : ∀ σ', RA σ' (K + 1) → Q (K23 σ' (nI (v + 5)))) : Q (f_L_law_2330 L xs K23 σ (nI v)) := by
  have e1 : nI v + (1 : Int32) = nI (v + 1) := nI_1 v
  have e2 : nI v + (2 : Int32) = nI (v + 2) := by rw [zk2, nI_add]
  have e3 : nI v + (3 : Int32) = nI (v + 3) := by rw [zk3, nI_add]
  have e4 : nI v + (4 : Int32) = nI (v + 4) := by rw [zk4, nI_add]
  have e5 : nI v + (5 : Int32) = nI (v + 5) := by rw [zk5, nI_add]
  rw [f_L_law_2330]
  simp (disch := omega) only [e1, e2, e3, e4, zg_in, zcl]
  exact z_endbQ (k_isConfined hK R _ _) hk
theorem l_2405 (hL : L ≤ 2560) (hv : v + 5 ≤ L) (hK : K < 1000) (R : RA σ K) (hk : ∀ σ', RA σ' (K + 1) → Q (K23 σ' (nI (v + 5)))) : Q (f_L_law_2405 L xs K23 σ (nI v)) := by
  have e1 : nI v + (1 : Int32) = nI (v + 1) := nI_1 v
  have e2 : nI v + (2 : Int32) = nI (v + 2) := by rw [zk2, nI_add]
  have e3 : nI v + (3 : Int32) = nI (v + 3) := by rw [zk3, nI_add]
  have e4 : nI v + (4 : Int32) = nI (v + 4) := by rw [zk4, nI_add]
  have e5 : nI v + (5 : Int32) = nI (v + 5) := by rw [zk5, nI_add]
  rw [f_L_law_2405]
  simp (disch := omega) only [e1, e2, e3, e4, zg_in, zcl]
  exact z_endQ (k_count R _) hk
theorem l_2461 (hL : L ≤ 2560) (hv : v + 5 ≤ L) (hK : K < 1000) (R : RA σ K) (hk : ∀ σ', RA σ' (K + 1) → Q (K23 σ' (nI (v + 5)))) : Q (f_L_law_2461 L xs K23 σ (nI v)) := by
  have e1 : nI v + (1 : Int32) = nI (v + 1) := nI_1 v
  have e2 : nI v + (2 : Int32) = nI (v + 2) := by rw [zk2, nI_add]
  have e3 : nI v + (3 : Int32) = nI (v + 3) := by rw [zk3, nI_add]
  have e4 : nI v + (4 : Int32) = nI (v + 4) := by rw [zk4, nI_add]
  have e5 : nI v + (5 : Int32) = nI (v + 5) := by rw [zk5, nI_add]
  obtain ⟨r, s1, s2, g1, g2, g3⟩ := k_save R
  rw [f_L_law_2461, g1, zb_s, g2, zb_s, if_pos rfl, e5]
  exact hk _ g3
theorem l_2474 (hL : L ≤ 2560) (hv : v + 5 ≤ L) (hK : K < 1000) (R : RA σ K) (hk : ∀ σ', RA σ' (K + 1) → Q (K23 σ' (nI (v + 5)))) : Q (f_L_law_2474 L xs K23 σ (nI v)) := by
  have e1 : nI v + (1 : Int32) = nI (v + 1) := nI_1 v
  have e2 : nI v + (2 : Int32) = nI (v + 2) := by rw [zk2, nI_add]
  have e3 : nI v + (3 : Int32) = nI (v + 3) := by rw [zk3, nI_add]
  have e4 : nI v + (4 : Int32) = nI (v + 4) := by rw [zk4, nI_add]
  have e5 : nI v + (5 : Int32) = nI (v + 5) := by rw [zk5, nI_add]
  rw [f_L_law_2474]
  exact z_endQ (k_restore R) hk
theorem l_23 (hL : L ≤ 2560) (hv : v + 5 ≤ L) (hK : K < 1000) (R : RA σ K) (hk : ∀ σ', RA σ' (K + 1) → Q (K23 σ' (nI (v + 5)))) : Q (f_L_law_23 L xs K23 σ (nI v)) := by
  have e5 : nI v + (5 : Int32) = nI (v + 5) := by rw [zk5, nI_add]
  have eL : (Int32.ofNat L) - (5 : Int32) = nI (L - 5) := nI_sub (a := L) (b := 5) (by omega)
  rw [f_L_law_23, eL, if_neg (by rw [znI_lt (by omega) (by omega)]; omega), zg_in _ (by omega) (by omega), zcl (by omega), e5]
  generalize xs v &&& (63 : Int32) = c
  by_cases h0 : c = 0
  · rw [if_pos h0]; exact l_200 hL hv hK R hk
  rw [if_neg h0]
  by_cases h1 : c = 1
  · rw [if_pos h1]; exact l_280 hL hv hK R hk
  rw [if_neg h1]
  by_cases h2 : c = 2
  · rw [if_pos h2]; exact l_336 hL hv hK R hk
  rw [if_neg h2]
  by_cases h3 : c = 3
  · rw [if_pos h3]; exact l_404 hL hv hK R hk
  rw [if_neg h3]
  by_cases h4 : c = 4
  · rw [if_pos h4]; exact l_417 hL hv hK R hk
  rw [if_neg h4]
  by_cases h5 : c = 5
  · rw [if_pos h5]; exact l_497 hL hv hK R hk
  rw [if_neg h5]
  by_cases h6 : c = 6
  · rw [if_pos h6]; exact l_565 hL hv hK R hk
  rw [if_neg h6]
  by_cases h7 : c = 7
  · rw [if_pos h7]; exact l_633 hL hv hK R hk
  rw [if_neg h7]
  by_cases h8 : c = 8
  · rw [if_pos h8]; exact l_701 hL hv hK R hk
  rw [if_neg h8]
  by_cases h9 : c = 9
  · rw [if_pos h9]; exact l_781 hL hv hK R hk
  rw [if_neg h9]
  by_cases h10 : c = 10
  · rw [if_pos h10]; exact l_849 hL hv hK R hk
  rw [if_neg h10]
  by_cases h11 : c = 11
  · rw [if_pos h11]; exact l_917 hL hv hK R hk
  rw [if_neg h11]
  by_cases h12 : c = 12
  · rw [if_pos h12]; exact l_973 hL hv hK R hk
  rw [if_neg h12]
  by_cases h13 : c = 13
  · rw [if_pos h13]; exact l_1029 hL hv hK R hk
  rw [if_neg h13]
  by_cases h14 : c = 14
  · rw [if_pos h14]; exact l_1085 hL hv hK R hk
  rw [if_neg h14]
  by_cases h15 : c = 15
  · rw [if_pos h15]; exact l_1141 hL hv hK R hk
  rw [if_neg h15]
  by_cases h16 : c = 16
  · rw [if_pos h16]; exact l_1233 hL hv hK R hk
  rw [if_neg h16]
  by_cases h17 : c = 17
  · rw [if_pos h17]; exact l_1301 hL hv hK R hk
  rw [if_neg h17]
  by_cases h18 : c = 18
  · rw [if_pos h18]; exact l_1357 hL hv hK R hk
  rw [if_neg h18]
  by_cases h19 : c = 19
  · rw [if_pos h19]; exact l_1413 hL hv hK R hk
  rw [if_neg h19]
  by_cases h20 : c = 20
  · rw [if_pos h20]; exact l_1469 hL hv hK R hk
  rw [if_neg h20]
  by_cases h21 : c = 21
  · rw [if_pos h21]; exact l_1553 hL hv hK R hk
  rw [if_neg h21]
  by_cases h22 : c = 22
  · rw [if_pos h22]; exact l_1566 hL hv hK R hk
  rw [if_neg h22]
  by_cases h23 : c = 23
  · rw [if_pos h23]; exact l_1634 hL hv hK R hk
  rw [if_neg h23]
  by_cases h24 : c = 24
  · rw [if_pos h24]; exact l_1690 hL hv hK R hk
  rw [if_neg h24]
  by_cases h25 : c = 25
  · rw [if_pos h25]; exact l_1798 hL hv hK R hk
  rw [if_neg h25]
  by_cases h26 : c = 26
  · rw [if_pos h26]; exact l_1878 hL hv hK R hk
  rw [if_neg h26]
  by_cases h27 : c = 27
  · rw [if_pos h27]; exact l_1958 hL hv hK R hk
  rw [if_neg h27]
  by_cases h28 : c = 28
  · rw [if_pos h28]; exact l_2026 hL hv hK R hk
  rw [if_neg h28]
  by_cases h29 : c = 29
  · rw [if_pos h29]; exact l_2082 hL hv hK R hk
  rw [if_neg h29]
  by_cases h30 : c = 30
  · rw [if_pos h30]; exact l_2150 hL hv hK R hk
  rw [if_neg h30]
  by_cases h31 : c = 31
  · rw [if_pos h31]; exact l_2206 hL hv hK R hk
  rw [if_neg h31]
  by_cases h32 : c = 32
  · rw [if_pos h32]; exact l_2274 hL hv hK R hk
  rw [if_neg h32]
  by_cases h33 : c = 33
  · rw [if_pos h33]; exact l_2330 hL hv hK R hk
  rw [if_neg h33]
  by_cases h34 : c = 34
  · rw [if_pos h34]; exact l_2405 hL hv hK R hk
  rw [if_neg h34]
  by_cases h35 : c = 35
  · rw [if_pos h35]; exact l_2461 hL hv hK R hk
  rw [if_neg h35]
  by_cases h36 : c = 36
  · rw [if_pos h36]; exact l_2474 hL hv hK R hk
  rw [if_neg h36]
  exact hk σ (RA_cong (Nat.le_succ K) ⟨fun _ _ => rfl, fun _ _ => rfl⟩ R)
end PL
theorem zend5 : ∀ L, L < 5 → nI L - 5 < nI (5 * 0) := by decide
/-- the law: every call is answered alike -/
theorem l_law {L : Nat} (hL : L ≤ 2560) (xs : Nat → Int32) {σ : zs} (R : RA σ 0) : ∃ σ' : zs, f_L_law L xs σ = some (1, σ') := by
  rw [f_L_law, zi0]
  refine zli1 (Q := fun x => ∃ σ' : zs, x = some (1, σ')) (L / 5) (fun j s a => a = nI (5 * j) ∧ RA s j) ?_ ?_ 600 (by omega) ⟨rfl, R⟩
  · rintro j hj s a ⟨rfl, R⟩ rec kk
    exact l_23 (Q := fun x => ∃ σ' : zs, x = some (1, σ')) hL (by omega) (by omega) R (fun σ' R' => kk σ' _ ⟨by rw [show 5 * j + 5 = 5 * (j + 1) by omega], R'⟩)
  · rintro s a ⟨rfl, R⟩ rec
    refine ⟨s, ?_⟩
    have e : (Int32.ofNat L) - (5 : Int32) = nI L - 5 := rfl
    rw [f_L_law_23, e, if_pos]
    by_cases h5 : 5 ≤ L
    · rw [zk5, nI_sub h5, znI_lt (by omega) (by omega)]; omega
    · rw [show L / 5 = 0 by omega]
      exact zend5 L (by omega)
