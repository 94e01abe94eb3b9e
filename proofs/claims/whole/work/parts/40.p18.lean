/-! a token made; a caveat added -/
theorem p_makeRoot {σ : zs} {n : Nat} (hc : σ 2 0 = nI n) (hn : n < 28) (s o : Int32) : f_X7_makeRoot σ s o = some (nI n, zp (zp (zp (zp (zp (zp (zp (zp σ 3 n o) 4 n 1) 5 (n * 7) (nI n)) 6 n ((1 : Int32) <<< (s &&& 31))) 7 n 0) 8 n (-1)) 9 n 0) 2 0 (nI (n + 1))) := by
  rw [f_X7_makeRoot, hc]
  simp (disch := omega) only [zg_in, zcl, zk7, nI_mul]
  rw [f_X7_startToken]
  simp (disch := omega) only [zg_in, zcl, zp_n, hc, nI_1, zb_s]
theorem p_addCaveat {σ : zs} {t q : Nat} (ht : t < 28) (hq : q < 4) (h9 : σ 9 t = nI q) (a b d : Int32) : f_X7_addCaveat σ (nI t) a b d = some (0, zp (zp (zp (zp σ 10 (t * 4 + q) a) 11 (t * 4 + q) b) 12 (t * 4 + q) d) 9 t (nI (q + 1))) := by
  rw [f_X7_addCaveat, zcl (by omega), h9]
  simp (disch := omega) only [zg_in, zcl, zk4, nI_mul, nI_add, znI_le]
  rw [if_neg (by omega)]
  simp (disch := omega) only [zp_n, h9, nI_1]
theorem m_makes {τ : zs} {n : Nat} (hm : τ 66 1 = nI n) (hn : n < 28) (s o pr : Int32) : f_X9_makes τ s o pr = some (nI n, zp (zp (zp (zp (zp (zp (zp τ 66 (51 + n) o) 66 (79 + n) pr) 66 (107 + n) ((1 : Int32) <<< (s &&& 31))) 66 (135 + n) (-1)) 66 (163 + n) 0) 66 (191 + n) 0) 66 1 (nI (n + 1))) := by
  rw [f_X9_makes, zG1, zG1, zG1, zC1, hm]
  simp (disch := omega) only [zk51, zk79, zk107, zk135, zk163, zk191, nI_add, zg_in, zcl, zp_o, hm, nI_1]
theorem m_adds {τ : zs} {t q : Nat} (ht : t < 28) (hq : q < 4) (h : τ 66 (191 + t) = nI q) (a b d : Int32) : f_X9_adds τ (nI t) a b d = some (0, zp (zp (zp (zp τ 66 (219 + 3 * (4 * t + q)) a) 66 (219 + 3 * (4 * t + q) + 1) b) 66 (219 + 3 * (4 * t + q) + 2) d) 66 (191 + t) (nI (q + 1))) := by
  rw [f_X9_adds]
  simp (disch := omega) only [zk191, zk219, zk3, zk4, zk1, zk2, nI_add, nI_mul, zg_in, zcl, h, zp_o]
theorem RTk_root {c : zs} {m : Nat → Int32} {K n o r : Nat} (ho : o < 12) (hr : r < 16) {h : Int32} (hh : zr h 64)
    (c3 : c 3 n = nI o) (c4 : c 4 n = 1) (c5 : c 5 (n * 7) = nI n) (hn : n < 28) (c6 : c 6 n = h) (c7 : c 7 n = 0) (c8 : c 8 n = -1) (c9 : c 9 n = 1) (c10 : c 10 (n * 4) = 0) (c11 : c 11 (n * 4) = nI r) (c12 : c 12 (n * 4) = -1)
    (m1 : m (51 + n) = nI o) (m2 : m (79 + n) = -1) (m3 : m (107 + n) = h) (m4 : m (135 + n) = -1) (m5 : m (163 + n) = 0) (m6 : m (191 + n) = 1) (m7 : m (219 + 3 * (4 * n)) = 0) (m8 : m (219 + 3 * (4 * n) + 1) = nI r) (m9 : m (219 + 3 * (4 * n) + 2) = -1) : RTk c m K n := by
  have l1 : zln c n = 1 := by unfold zln; rw [c4]; rfl
  have h0 : zch c n 0 = n := by
    unfold zch; rw [Nat.add_zero, c5]; exact zN_nI (by omega)
  refine ⟨⟨by rw [m1, c3], by rw [c3]; exact zr_i ho (by omega)⟩, ⟨by rw [c4]; exact zr_i (v := 1) (by decide) (by decide), by omega⟩, ⟨fun k hk => ?_, ?_⟩, ⟨fun _ => m2, fun h => absurd h (by omega)⟩, ⟨by rw [m3, c6], by rw [c6]; exact hh⟩, ⟨by rw [m5, c7], by rw [c7]; exact zr_i (v := 0) (by omega) (by decide)⟩, ⟨by rw [m4, c8], Or.inl c8⟩, ⟨by rw [m6, c9], by rw [c9]; exact zr_i (v := 1) (by decide) (by decide)⟩, fun q hq => ?_⟩
  · have : k = 0 := by omega
    subst this
    rw [Nat.add_zero, c5]; exact zr_i (by omega) (by omega)
  · rw [l1]; exact h0
  · rw [c9] at hq
    have : q = 0 := by
      have e : zN (1 : Int32) = 1 := rfl
      omega
    subst this
    simp only [Nat.add_zero, c10, c11, c12, m7, m8, m9]
    exact ⟨⟨trivial, trivial, trivial⟩, zr_i (v := 0) (by decide) (by decide), zr_i (by omega) (by omega), fun _ => zr_i hr (by omega), fun h => absurd h (by decide), fun h => absurd h (by decide)⟩
section PQ
variable {σ : zs} {K : Nat}
theorem k_mint (R : RA σ K) (a b c : Int32) : zok (f_L_mint_0_75 σ a b c) (fun τ => f_X9_mint τ a b c) (K + 1) := by
  obtain ⟨n, hS⟩ := R.1
  have hS0 := hS
  obtain ⟨hn, ⟨hc, hm⟩, ht, hbx, hjn, hob, htm, hex⟩ := hS
  have o49 : ∀ (τ : zs) (e : Int32), e ≠ 0 → f_X9_mint_49 τ a b c e = some (0, zp τ 65 3 e) := fun τ e he => by rw [f_X9_mint_49, zp_e, if_neg he]
  rcases zcase a (n := 6) (by omega) with ⟨s, hs, rfl⟩ | ho
  · rcases zcase b (n := 12) (by omega) with ⟨o, hob2, rfl⟩ | ho2
    · rcases zcase c (n := 16) (by omega) with ⟨r, hr, rfl⟩ | hw
      · have i1 : ∀ τ : zs, f_X9_isIn τ (nI r) 0 15 = some (1, τ) := fun τ => m_in τ (n := 16) (by decide) (by decide) hr
        have e15 : ¬ nI r < 0 ∧ ¬ (15 : Int32) < nI r := by
          refine ⟨zlt0 (by omega), ?_⟩
          rw [zk15, znI_lt (by omega) (by omega)]; omega
        by_cases hf : n < 28
        · have cl : f_X8_mint σ (nI s) (nI o) (nI r) = some (0, nI n, zp (zp (zp (zp (zp (zp (zp (zp (zp (zp (zp (zp σ 3 n (nI o)) 4 n 1) 5 (n * 7) (nI n)) 6 n ((1 : Int32) <<< (nI s &&& 31))) 7 n 0) 8 n (-1)) 9 n 0) 2 0 (nI (n + 1))) 10 (n * 4 + 0) 0) 11 (n * 4 + 0) (nI r)) 12 (n * 4 + 0) (-1)) 9 n (nI (0 + 1))) := by
            rw [f_X8_mint, c_sub_in σ hs, zx_0, c_obj_in σ hob2, zx_0, if_neg e15.1, if_neg e15.2, f_X8_mint_23, f_X8_needArgument, if_neg (by decide), zx_0, hc, if_neg (by rw [zk28, znI_le (by omega) (by omega)]; omega), f_X8_mint_46, f_X8_needState, if_neg (by decide), zx_0, p_makeRoot hc hf, zb_s, p_addCaveat (q := 0) hf (by decide) (by rw [zp_n _ _ _ (by decide), zp_e]; rfl), zb_s]
          have md : ∀ τ : zs, τ 66 = σ 66 → f_X9_mint τ (nI s) (nI o) (nI r) = some (nI n, zp (zp (zp (zp (zp (zp (zp (zp (zp (zp (zp (zp τ 65 3 0) 66 (51 + n) (nI o)) 66 (79 + n) (-1)) 66 (107 + n) ((1 : Int32) <<< (nI s &&& 31))) 66 (135 + n) (-1)) 66 (163 + n) 0) 66 (191 + n) 0) 66 1 (nI (n + 1))) 66 (219 + 3 * (4 * n + 0)) 0) 66 (219 + 3 * (4 * n + 0) + 1) (nI r)) 66 (219 + 3 * (4 * n + 0) + 2) (-1)) 66 (191 + n) (nI (0 + 1))) := by
            intro τ e
            have h1 : (zp τ 65 3 0) 66 1 = nI n := by rw [zp_n _ _ _ (by decide), e]; exact hm
            rw [f_X9_mint, m_sub_in _ hs, zb_s, if_neg (by decide), m_obj_in _ hob2, zb_s, if_neg (by decide), i1, zb_s, if_neg (by decide), zG1, zC1, e, hm, if_neg (by rw [zk28, znI_inj (by omega) (by omega)]; omega), f_X9_mint_49, zp_e, if_pos rfl, m_makes h1 hf, zb_s, m_adds (q := 0) hf (by decide) (by rw [zp_o _ _ (by omega), zp_e]; rfl), zb_s]
          generalize hS1 : zp (zp (zp (zp (zp (zp (zp (zp (zp (zp (zp (zp σ 3 n (nI o)) 4 n 1) 5 (n * 7) (nI n)) 6 n ((1 : Int32) <<< (nI s &&& 31))) 7 n 0) 8 n (-1)) 9 n 0) 2 0 (nI (n + 1))) 10 (n * 4 + 0) 0) 11 (n * 4 + 0) (nI r)) 12 (n * 4 + 0) (-1)) 9 n (nI (0 + 1)) = S1 at cl
          have f1 : ∀ p, p = 0 ∨ p = 1 ∨ 13 ≤ p → S1 p = σ p := by
            intro p hp
            rw [← hS1]
            repeat rw [zp_n _ _ _ (by omega)]
          have md1 := md (zp S1 75 0 (nI n)) (by rw [zp_n _ _ _ (by decide), f1 66 (by decide)])
          generalize hS2 : zp (zp (zp (zp (zp (zp (zp (zp (zp (zp (zp (zp (zp S1 75 0 (nI n)) 65 3 0) 66 (51 + n) (nI o)) 66 (79 + n) (-1)) 66 (107 + n) ((1 : Int32) <<< (nI s &&& 31))) 66 (135 + n) (-1)) 66 (163 + n) 0) 66 (191 + n) 0) 66 1 (nI (n + 1))) 66 (219 + 3 * (4 * n + 0)) 0) 66 (219 + 3 * (4 * n + 0) + 1) (nI r)) 66 (219 + 3 * (4 * n + 0) + 2) (-1)) 66 (191 + n) (nI (0 + 1)) = S2 at md1
          have f2 : ∀ p, p ≠ 65 → p ≠ 66 → p ≠ 75 → S2 p = S1 p := by
            intro p p1 p2 p3
            rw [← hS2]
            repeat rw [zp_n _ _ _ (by omega)]
          have f65 : ∀ j, j ≠ 3 → S2 65 j = σ 65 j := by
            intro j hj
            rw [← hS2]
            repeat rw [zp_n _ _ _ (by decide)]
            rw [zp_o _ _ hj, zp_n _ _ _ (by decide), f1 65 (by decide)]
          refine zok_0 (r := nI n) (σ1 := S1) (σ2 := S2) cl md1 ?_ ?_ ?_
          · rw [← hS2]
            repeat rw [zp_n _ _ _ (by decide)]
            exact zp_e _ _ _ _
          · rw [← hS2]
            repeat rw [zp_n _ _ _ (by decide)]
          · refine RA_new (n := n + 1) R (RS_new hS0 hf (fun p j p1 p2 p3 c1 c2 c3 c4 => ?_) (fun j j0 j1 j2 j3 j4 j5 j6 j7 j8 => ?_) ?_ ?_ (RTk_root (o := o) (r := r) (h := (1 : Int32) <<< (nI s &&& 31)) hob2 hr (zr_sh hs) ?_ ?_ ?_ hf ?_ ?_ ?_ ?_ ?_ ?_ ?_ ?_ ?_ ?_ ?_ ?_ ?_ ?_ ?_ ?_)) (fun p hp => ?_) (fun j hj => f65 j (by omega))
            · rw [f2 p (by omega) (by omega) (by omega), ← hS1]
              repeat rw [zp_rd, if_neg (by omega)]
            · rw [← hS2]
              repeat rw [zp_o _ _ (by omega)]
              rw [zp_n _ _ _ (by decide), zp_n _ _ _ (by decide), f1 66 (by decide)]
            · rw [f2 2 (by decide) (by decide) (by decide), ← hS1]
              simp (disch := omega) only [zp_n, zp_e]
            · rw [← hS2]
              simp (disch := omega) only [zp_o, zp_e]
            · rw [f2 3 (by decide) (by decide) (by decide), ← hS1]
              simp (disch := omega) only [Nat.add_zero, Nat.zero_add, zp_n, zp_e]
            · rw [f2 4 (by decide) (by decide) (by decide), ← hS1]
              simp (disch := omega) only [Nat.add_zero, Nat.zero_add, zp_n, zp_e]
            · rw [f2 5 (by decide) (by decide) (by decide), ← hS1]
              simp (disch := omega) only [Nat.add_zero, Nat.zero_add, zp_n, zp_e]
            · rw [f2 6 (by decide) (by decide) (by decide), ← hS1]
              simp (disch := omega) only [Nat.add_zero, Nat.zero_add, zp_n, zp_e]
            · rw [f2 7 (by decide) (by decide) (by decide), ← hS1]
              simp (disch := omega) only [Nat.add_zero, Nat.zero_add, zp_n, zp_e]
            · rw [f2 8 (by decide) (by decide) (by decide), ← hS1]
              simp (disch := omega) only [Nat.add_zero, Nat.zero_add, zp_n, zp_e]
            · rw [f2 9 (by decide) (by decide) (by decide), ← hS1]
              simp (disch := omega) only [Nat.add_zero, Nat.zero_add, zp_n, zp_e]
              rfl
            · rw [f2 10 (by decide) (by decide) (by decide), ← hS1]
              simp (disch := omega) only [Nat.add_zero, Nat.zero_add, zp_n, zp_e]
            · rw [f2 11 (by decide) (by decide) (by decide), ← hS1]
              simp (disch := omega) only [Nat.add_zero, Nat.zero_add, zp_n, zp_e]
            · rw [f2 12 (by decide) (by decide) (by decide), ← hS1]
              simp (disch := omega) only [Nat.add_zero, Nat.zero_add, zp_n, zp_e]
            · rw [← hS2]
              simp (disch := omega) only [Nat.add_zero, Nat.zero_add, zp_o, zp_e]
            · rw [← hS2]
              simp (disch := omega) only [Nat.add_zero, Nat.zero_add, zp_o, zp_e]
            · rw [← hS2]
              simp (disch := omega) only [Nat.add_zero, Nat.zero_add, zp_o, zp_e]
            · rw [← hS2]
              simp (disch := omega) only [Nat.add_zero, Nat.zero_add, zp_o, zp_e]
            · rw [← hS2]
              simp (disch := omega) only [Nat.add_zero, Nat.zero_add, zp_o, zp_e]
            · rw [← hS2]
              simp (disch := omega) only [Nat.add_zero, Nat.zero_add, zp_o, zp_e]
              rfl
            · rw [← hS2]
              simp (disch := omega) only [Nat.add_zero, Nat.zero_add, zp_o, zp_e]
            · rw [← hS2]
              simp (disch := omega) only [Nat.add_zero, Nat.zero_add, zp_o, zp_e]
            · rw [← hS2]
              simp (disch := omega) only [Nat.add_zero, Nat.zero_add, zp_o, zp_e]
            · rw [f2 p (by omega) (by omega) (by omega), f1 p (by omega)]
        · refine zokq_e 2 3 R ⟨σ, 0, ?_, zQx_refl σ⟩ (fun _ => rfl) (by decide) (fun τ hv => ⟨zp τ 65 3 3, 0, ?_, zp_e _ _ _ _, zMx_3 _ _⟩)
          · rw [f_X8_mint, c_sub_in σ hs, zx_0, c_obj_in σ hob2, zx_0, if_neg e15.1, if_neg e15.2, f_X8_mint_23, f_X8_needArgument, if_neg (by decide), zx_0, hc, if_pos (by rw [zk28, znI_le (by omega) (by omega)]; omega), f_X8_mint_46, f_X8_needState, if_pos rfl]; rfl
          · have e := hv 66 (by decide) (by decide)
            rw [f_X9_mint, m_sub_in _ hs, zb_s, if_neg (by decide), m_obj_in _ hob2, zb_s, if_neg (by decide), i1, zb_s, if_neg (by decide), zG1, zC1, e, hm, if_pos (by rw [show n = 28 by omega]; rfl), o49 _ _ (by decide)]
      · refine zokq_e 1 2 R ⟨σ, 0, ?_, zQx_refl σ⟩ (fun _ => rfl) (by decide) (fun τ hv => ⟨zp τ 65 3 2, 0, ?_, zp_e _ _ _ _, zMx_3 _ _⟩)
        · rw [f_X8_mint, c_sub_in σ hs, zx_0, c_obj_in σ hob2, zx_0]
          by_cases q : c < 0
          · rw [if_pos q]; rfl
          · rw [if_neg q, if_pos (show (15 : Int32) < c from z_gt (k := 15) (by decide) (hw.resolve_left q))]; rfl
        · rw [f_X9_mint, m_sub_in _ hs, zb_s, if_neg (by decide), m_obj_in _ hob2, zb_s, if_neg (by decide), m_out τ (n := 16) (by decide) (by decide) hw, zb_s, if_pos rfl, o49 _ _ (by decide)]
    · refine zokq_e 0 1 R ⟨σ, 0, ?_, zQx_refl σ⟩ (fun _ => rfl) (by decide) (fun τ hv => ⟨zp τ 65 3 1, 0, ?_, zp_e _ _ _ _, zMx_3 _ _⟩)
      · rw [f_X8_mint, c_sub_in σ hs, zx_0, c_obj_out σ ho2]; rfl
      · rw [f_X9_mint, m_sub_in _ hs, zb_s, if_neg (by decide), m_obj_out _ ho2, zb_s, if_pos rfl, o49 _ _ (by decide)]
  · refine zokq_e 0 1 R ⟨σ, 0, ?_, zQx_refl σ⟩ (fun _ => rfl) (by decide) (fun τ hv => ⟨zp τ 65 3 1, 0, ?_, zp_e _ _ _ _, zMx_3 _ _⟩)
    · rw [f_X8_mint, c_sub_out σ ho]; rfl
    · rw [f_X9_mint, m_sub_out _ ho, zb_s, if_pos rfl, o49 _ _ (by decide)]
end PQ
section PR
variable {σ : zs} {K : Nat}
theorem k_seal (R : RA σ K) (a b c : Int32) : zok (f_L_seal_0_75 σ a b c) (fun τ => f_X9_seal τ a b c) (K + 1) := by
  obtain ⟨n, hS⟩ := R.1
  have hS0 := hS
  obtain ⟨hn, ⟨hc, hm⟩, ht, hbx, hjn, hob, htm, hex⟩ := hS
  obtain ⟨np, nx, hnp, hnx, ⟨p1, p2⟩, ⟨x1, x2⟩, hp, hx⟩ := hbx
  have o112 : ∀ (τ : zs) (e : Int32), e ≠ 0 → f_X9_seal_112 (zp τ 65 3 e) a b c = some (0, zp τ 65 3 e) := fun τ e he => by rw [f_X9_seal_112, zp_e, if_neg he]
  have o29 : ∀ τ : zs, f_X9_seal_29 τ a b c 1 = some (0, zp τ 65 3 1) := fun τ => by rw [f_X9_seal_29, zp_e, if_neg (by decide), o112 _ _ (by decide)]
  rcases zcase a (n := 6) (by omega) with ⟨s, hs, rfl⟩ | ho
  · rcases zcase b (n := np) (by omega) with ⟨p, h, rfl⟩ | ho2
    · rcases zcase c (n := n) (by omega) with ⟨t, htn, rfl⟩ | hw
      · have T := ht t htn
        have hh := (hp p h).1
        have hho := RT_hold T
        obtain ⟨s1, g1, g2⟩ := p_holdsPart (σ := σ) hs (show p < 4 by omega) (0 : Int32)
        rw [if_pos (show (0 : Int32) = 0 from rfl)] at g1 g2
        have md : ∀ τ : zs, τ 66 = σ 66 → f_X9_seal τ (nI s) (nI p) (nI t) = f_X9_seal_29 τ (nI s) (nI p) (nI t) 0 := by
          intro τ e
          rw [f_X9_seal, m_sub_in _ hs, zb_s, if_neg (by decide), m_pair_in (by rw [e]; exact p2) hnp h, zb_s, if_neg (by decide), m_tok_in (by rw [e]; exact hm) hn htn, zb_s, if_neg (by decide)]
        have md2 : ∀ τ : zs, τ 66 = σ 66 → f_X9_seal_29 τ (nI s) (nI p) (nI t) 0 = if bI (zbit (σ 15 p) s) = 0 then (zb (f_X9_reports (zp τ 65 3 0) (5 : Int32) (nI p) (2 : Int32)) (fun r14 σ15 => f_X9_seal_112 (zp σ15 65 3 r14) (nI s) (nI p) (nI t))) else (if bI (zbit (σ 6 t) s) = 0 then (zb (f_X9_reports (zp τ 65 3 0) (1 : Int32) (nI t) (2 : Int32)) (fun r11 σ12 => f_X9_seal_112 (zp σ12 65 3 r11) (nI s) (nI p) (nI t))) else (if nI nx = (12 : Int32) then (f_X9_seal_112 (zp (zp τ 65 3 0) 65 3 (3 : Int32)) (nI s) (nI p) (nI t)) else (f_X9_seal_112 (zp (zp τ 65 3 0) 65 3 (0 : Int32)) (nI s) (nI p) (nI t)))) := by
          intro τ e
          rw [f_X9_seal_29, zp_e, if_pos rfl]
          simp (disch := omega) only [zk555, nI_add, zg_in, zcl, zp_n, e, hh.1]
          rw [p_has _ _ (show s < 32 by omega), zb_s]
          simp (disch := omega) only [zk107, nI_add, zg_in, zcl, zp_n, e, hho.1]
          rw [p_has _ _ (show s < 32 by omega), zb_s, zG3, zC3]
          simp (disch := omega) only [zp_n, e, x2]
        cases hb : zbit (σ 15 p) s with
        | true =>
          rw [hb] at g2 g1
          rw [if_pos rfl] at g2
          subst g2
          obtain ⟨s2, g3, g4⟩ := p_holdsToken (σ := s1) hn hs htn
          cases hb2 : zbit (s1 6 t) s with
          | true =>
            rw [hb2] at g3 g4
            rw [if_pos rfl] at g4
            subst g4
            by_cases hf : nx < 12
            · have cl : f_X8_seal s2 (nI s) (nI p) (nI t) = some (0, nI nx, zp (zp (zp (zp s2 17 nx (nI p)) 18 nx (nI t)) 19 nx ((1 : Int32) <<< (nI s &&& 31))) 14 3 (nI (nx + 1))) := by
                rw [f_X8_seal, c_sub_in _ hs, zx_0, c_pair_in p1 hnp h, zx_0, c_tok_in hc hn htn, zx_0, g1, zb_s, if_neg (by decide), g3, zb_s, if_neg (by decide), f_X8_seal_38, f_X8_needPermission, if_neg (by decide), zx_0, x1, if_neg (by rw [zk12, znI_le (by omega) (by omega)]; omega), f_X8_seal_61, f_X8_needState, if_neg (by decide), zx_0, f_X0_addBox, x1]
                simp (disch := omega) only [zg_in, zcl, zp_n, x1, nI_1, zb_s]
              have md3 : ∀ τ : zs, τ 66 = s2 66 → f_X9_seal τ (nI s) (nI p) (nI t) = some (nI nx, zp (zp (zp (zp (zp (zp τ 65 3 0) 65 3 0) 66 (563 + nx) (nI p)) 66 (575 + nx) (nI t)) 66 (587 + nx) ((1 : Int32) <<< (nI s &&& 31))) 66 3 (nI (nx + 1))) := by
                intro τ e
                rw [md τ e, md2 τ e, hb, if_neg (show ¬ bI true = 0 by decide), hb2, if_neg (show ¬ bI true = 0 by decide), if_neg (by rw [zk12, znI_inj (by omega) (by omega)]; omega), f_X9_seal_112, zp_e, if_pos rfl, zG3, zG3, zG3, zC3]
                simp (disch := omega) only [zk563, zk575, zk587, nI_add, zg_in, zcl, zp_n, zp_o, e, x2, nI_1]
              generalize hS1 : zp (zp (zp (zp s2 17 nx (nI p)) 18 nx (nI t)) 19 nx ((1 : Int32) <<< (nI s &&& 31))) 14 3 (nI (nx + 1)) = S1 at cl
              have f1 : ∀ q, ¬ (q = 14 ∨ q = 17 ∨ q = 18 ∨ q = 19) → S1 q = s2 q := by
                intro q hq
                rw [← hS1]
                repeat rw [zp_n _ _ _ (by omega)]
              have md4 := md3 (zp S1 75 0 (nI nx)) (by rw [zp_n _ _ _ (by decide), f1 66 (by decide)])
              generalize hS2 : zp (zp (zp (zp (zp (zp (zp S1 75 0 (nI nx)) 65 3 0) 65 3 0) 66 (563 + nx) (nI p)) 66 (575 + nx) (nI t)) 66 (587 + nx) ((1 : Int32) <<< (nI s &&& 31))) 66 3 (nI (nx + 1)) = S2 at md4
              have f2 : ∀ q, q ≠ 65 → q ≠ 66 → q ≠ 75 → S2 q = S1 q := by
                intro q q1 q2 q3
                rw [← hS2]
                repeat rw [zp_n _ _ _ (by omega)]
              have f65 : ∀ j, j ≠ 3 → S2 65 j = s2 65 j := by
                intro j hj
                rw [← hS2]
                repeat rw [zp_n _ _ _ (by decide)]
                rw [zp_o _ _ hj, zp_o _ _ hj, zp_n _ _ _ (by decide), f1 65 (by decide)]
              have f66 : ∀ j, j ≠ 3 → j ≠ 563 + nx → j ≠ 575 + nx → j ≠ 587 + nx → S2 66 j = s2 66 j := by
                intro j j1 j2 j3 j4
                rw [← hS2]
                repeat rw [zp_o _ _ (by omega)]
                rw [zp_n _ _ _ (by decide), zp_n _ _ _ (by decide), zp_n _ _ _ (by decide), f1 66 (by decide)]
              refine zok_0 (r := nI nx) (σ1 := S1) (σ2 := S2) cl md4 ?_ ?_ ?_
              · rw [← hS2]
                repeat rw [zp_n _ _ _ (by decide)]
                exact zp_e _ _ _ _
              · rw [← hS2]
                repeat rw [zp_n _ _ _ (by decide)]
              · refine RA_new (n := n) R (RS_box (Nat.le_succ K) hS0 (fun q hq => ?_) (fun j hj => ?_) ⟨np, nx + 1, hnp, by omega, ⟨?_, ?_⟩, ⟨?_, ?_⟩, fun i hi => ?_, fun i hi => ?_⟩) (fun q hq => ?_) (fun j hj => f65 j (by omega))
                · rw [f2 q (by omega) (by omega) (by omega), f1 q (by omega)]
                · exact f66 j (by omega) (by omega) (by omega) (by omega)
                · rw [f2 14 (by decide) (by decide) (by decide), ← hS1, zp_o _ _ (by decide), zp_n _ _ _ (by decide), zp_n _ _ _ (by decide), zp_n _ _ _ (by decide)]; exact p1
                · rw [f66 2 (by omega) (by omega) (by omega) (by omega)]; exact p2
                · rw [f2 14 (by decide) (by decide) (by decide), ← hS1, zp_e]
                · rw [← hS2, zp_e]
                · rw [f66 (555 + i) (by omega) (by omega) (by omega) (by omega), f66 (559 + i) (by omega) (by omega) (by omega) (by omega), f2 15 (by decide) (by decide) (by decide), f2 16 (by decide) (by decide) (by decide), f1 15 (by decide), f1 16 (by decide)]
                  exact hp i hi
                · rw [f2 17 (by decide) (by decide) (by decide), f2 18 (by decide) (by decide) (by decide), f2 19 (by decide) (by decide) (by decide), ← hS1, ← hS2]
                  by_cases e : i = nx
                  · subst e
                    simp (disch := omega) only [zp_n, zp_o, zp_e]
                    exact ⟨⟨trivial, zr_i h (by omega)⟩, ⟨trivial, zr_i htn (by omega)⟩, trivial, zr_sh hs⟩
                  · simp (disch := omega) only [zp_n, zp_o]
                    rw [f1 66 (by decide)]
                    exact hx i (by omega)
                · rw [f2 q (by omega) (by omega) (by omega), f1 q (by omega)]
            · refine zokq_e 2 3 R ⟨s2, 0, ?_, zQx_refl s2⟩ (fun _ => rfl) (by decide) (fun τ hv => ⟨zp (zp τ 65 3 0) 65 3 3, 0, ?_, zp_e _ _ _ _, zMx_trans (zMx_3 _ _) (zMx_3 _ _)⟩)
              · rw [f_X8_seal, c_sub_in _ hs, zx_0, c_pair_in p1 hnp h, zx_0, c_tok_in hc hn htn, zx_0, g1, zb_s, if_neg (by decide), g3, zb_s, if_neg (by decide), f_X8_seal_38, f_X8_needPermission, if_neg (by decide), zx_0, x1, if_pos (by rw [zk12, znI_le (by omega) (by omega)]; omega), f_X8_seal_61, f_X8_needState, if_pos rfl]; rfl
              · have e := hv 66 (by decide) (by decide)
                rw [md τ e, md2 τ e, hb, if_neg (show ¬ bI true = 0 by decide), hb2, if_neg (show ¬ bI true = 0 by decide), if_pos (by rw [show nx = 12 by omega]; rfl), o112 _ _ (by decide)]
          | false =>
            rw [hb2] at g3 g4
            rw [if_neg (by decide)] at g4
            refine zok_rep 3 2 R (L := [(1, nI t)]) (by simp) (σ1 := s2) (r := 0) ?_ (zFa_3 g4.1) g4.2 (fun _ => rfl) (by decide) ?_
            · rw [f_X8_seal, c_sub_in _ hs, zx_0, c_pair_in p1 hnp h, zx_0, c_tok_in hc hn htn, zx_0, g1, zb_s, if_neg (by decide), g3, zb_s, if_pos (show bI false = 0 from rfl), f_X8_seal_38, f_X8_needPermission, if_pos rfl]; rfl
            · have e66 : s2 66 = s1 66 := g4.1 66 (by decide) (by decide) (by decide)
              obtain ⟨σ2, r', m1, m2, m3, m4, m5⟩ := m_rep (zp s2 65 3 0) 1 (nI t) 2 (kk := 2) (r := 0) (f := fun r8 σ9 => f_X9_seal_112 (zp σ9 65 3 r8) (nI s) (nI p) (nI t)) (fun τ' _ => o112 _ _ (by decide))
              refine ⟨σ2, r', ?_, m2, fun q q1 q2 q3 q4 => by rw [m3 q q1 q2 q3 q4, zp_n _ _ _ q1], fun j j1 j2 => by rw [m4 j j1 j2, zp_o _ _ j1], m5⟩
              rw [md _ e66, md2 _ e66, hb, if_neg (show ¬ bI true = 0 by decide), hb2, if_pos (show bI false = 0 from rfl)]
              exact m1
        | false =>
          rw [hb] at g2 g1
          rw [if_neg (by decide)] at g2
          refine zok_rep 3 2 R (L := [(5, nI p)]) (by simp) (σ1 := s1) (r := 0) ?_ (zFa_3 g2.1) g2.2 (fun _ => rfl) (by decide) ?_
          · rw [f_X8_seal, c_sub_in _ hs, zx_0, c_pair_in p1 hnp h, zx_0, c_tok_in hc hn htn, zx_0, g1, zb_s, if_pos (show bI false = 0 from rfl), f_X8_seal_38, f_X8_needPermission, if_pos rfl]; rfl
          · have e66 : s1 66 = σ 66 := g2.1 66 (by decide) (by decide) (by decide)
            obtain ⟨σ2, r', m1, m2, m3, m4, m5⟩ := m_rep (zp s1 65 3 0) 5 (nI p) 2 (kk := 2) (r := 0) (f := fun r8 σ9 => f_X9_seal_112 (zp σ9 65 3 r8) (nI s) (nI p) (nI t)) (fun τ' _ => o112 _ _ (by decide))
            refine ⟨σ2, r', ?_, m2, fun q q1 q2 q3 q4 => by rw [m3 q q1 q2 q3 q4, zp_n _ _ _ q1], fun j j1 j2 => by rw [m4 j j1 j2, zp_o _ _ j1], m5⟩
            rw [md _ e66, md2 _ e66, hb, if_pos (show bI false = 0 from rfl)]
            exact m1
      · refine zokq_e 0 1 R ⟨σ, 0, ?_, zQx_refl σ⟩ (fun _ => rfl) (by decide) (fun τ hv => ⟨zp τ 65 3 1, 0, ?_, zp_e _ _ _ _, zMx_3 _ _⟩)
        · rw [f_X8_seal, c_sub_in _ hs, zx_0, c_pair_in p1 hnp h, zx_0, c_tok_out hc hw]; rfl
        · have e := hv 66 (by decide) (by decide)
          rw [f_X9_seal, m_sub_in _ hs, zb_s, if_neg (by decide), m_pair_in (by rw [e]; exact p2) hnp h, zb_s, if_neg (by decide), m_tok_out (by rw [e]; exact hm) hn hw, zb_s, if_pos rfl, o29]
    · refine zokq_e 0 1 R ⟨σ, 0, ?_, zQx_refl σ⟩ (fun _ => rfl) (by decide) (fun τ hv => ⟨zp τ 65 3 1, 0, ?_, zp_e _ _ _ _, zMx_3 _ _⟩)
      · rw [f_X8_seal, c_sub_in _ hs, zx_0, c_pair_out p1 ho2]; rfl
      · have e := hv 66 (by decide) (by decide)
        rw [f_X9_seal, m_sub_in _ hs, zb_s, if_neg (by decide), m_pair_out (by rw [e]; exact p2) hnp ho2, zb_s, if_pos rfl, o29]
  · refine zokq_e 0 1 R ⟨σ, 0, ?_, zQx_refl σ⟩ (fun _ => rfl) (by decide) (fun τ hv => ⟨zp τ 65 3 1, 0, ?_, zp_e _ _ _ _, zMx_3 _ _⟩)
    · rw [f_X8_seal, c_sub_out σ ho]; rfl
    · rw [f_X9_seal, m_sub_out _ ho, zb_s, if_pos rfl, o29]
end PR
