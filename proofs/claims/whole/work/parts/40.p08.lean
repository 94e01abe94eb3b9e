/-! the calls that change nothing, one by one -/
theorem ze10 : ((1 : Int32) = 0) = False := by decide
theorem ze20 : ((2 : Int32) = 0) = False := by decide
theorem ze30 : ((3 : Int32) = 0) = False := by decide
theorem ze40 : ((4 : Int32) = 0) = False := by decide
theorem bI_0' (b : Bool) : (bI b = 0) = (b = false) := by cases b <;> decide
theorem z_gt {a : Int32} {k : Nat} (hk : k + 1 < 2147483648) (h : nI (k + 1) ≤ a) : nI k < a := by
  rw [Int32.le_iff_toInt_le, nI_toInt hk] at h
  rw [Int32.lt_iff_toInt_lt, nI_toInt (by omega)]
  omega
section PH
variable {σ : zs} {K : Nat}
theorem k_holders (R : RA σ K) (a : Int32) : zok (f_L_holders_0_75 σ a) (fun τ => f_X9_holders τ a) (K + 1) := by
  obtain ⟨n, hn, ⟨hc, hm⟩, ht, -⟩ := R.1
  rcases zcase a (n := n) (by omega) with ⟨t, h, rfl⟩ | ho
  · refine zokq_0 (r := σ 6 t) R ⟨σ, ?_, zQx_refl σ⟩ (fun τ hv => ⟨zp τ 65 3 0, ?_, zp_e _ _ _ _, zMx_3 _ _⟩)
    · rw [f_X8_holders, c_tok_in hc hn h]
      simp (disch := omega) only [zx_0, zg_in, zcl]
    · have e := hv 66 (by decide) (by decide)
      have hh := (RT_hold (ht t h)).1
      rw [f_X9_holders, m_tok_in (by rw [e]; exact hm) hn h]
      simp (disch := omega) only [zb_s, ze10, ↓reduceIte, f_X9_holders_14, zp_e, zk107, nI_add, zg_in, zcl, zp_n, e, hh]
  · refine zokq_e 0 1 R ⟨σ, 0, ?_, zQx_refl σ⟩ (fun _ => rfl) (by decide) (fun τ hv => ⟨zp τ 65 3 1, 0, ?_, zp_e _ _ _ _, zMx_3 _ _⟩)
    · rw [f_X8_holders, c_tok_out hc ho]; rfl
    · have e := hv 66 (by decide) (by decide)
      rw [f_X9_holders, m_tok_out (by rw [e]; exact hm) hn ho]
      simp (disch := omega) only [zb_s, ↓reduceIte, f_X9_holders_14, zp_e, ze10]
theorem k_held (R : RA σ K) (a : Int32) : zok (f_L_held_0_75 σ a) (fun τ => f_X9_held τ a) (K + 1) := by
  obtain ⟨n, hn, ⟨hc, hm⟩, ht, hbx, hjn, hob, htm, hex⟩ := R.1
  rcases zcase a (n := 6) (by omega) with ⟨t, h, rfl⟩ | ho
  · refine zokq_0 (r := zset (fun u => zbit (σ 6 u) t) n) R ⟨σ, ?_, zQx_refl σ⟩ (fun τ hv => ⟨zp τ 65 3 0, ?_, zp_e _ _ _ _, zMx_3 _ _⟩)
    · rw [f_X8_held, c_sub_in σ h, zx_0, p_X7_setHeldBy hn hc h]; rfl
    · have e := hv 66 (by decide) (by decide)
      have ew : (zp τ 65 3 0) 66 = σ 66 := by rw [zp_n _ _ _ (by decide), e]
      rw [f_X9_held, m_sub_in τ h]
      simp (disch := omega) only [zb_s, zx_0, ↓reduceIte, zp_e, zp_n, e, nI_add, nI_1, zg_in, zcl, ze10, ze20, ze30, ze40, f_X9_held_13]
      rw [m_heldBy (τ := zp τ 65 3 0) (c := σ) (K := K) hn (by rw [ew]; exact hm) (by rw [ew]; exact ht) h]; rfl
  · refine zokq_e 0 1 R ⟨σ, 0, ?_, zQx_refl σ⟩ (fun _ => rfl) (by decide) (fun τ hv => ⟨zp τ 65 3 1, 0, ?_, zp_e _ _ _ _, zMx_3 _ _⟩)
    · rw [f_X8_held, c_sub_out σ ho]; rfl
    · have e := hv 66 (by decide) (by decide)
      rw [f_X9_held, m_sub_out τ ho]
      simp (disch := omega) only [zb_s, zx_0, ↓reduceIte, zp_e, zp_n, e, nI_add, nI_1, zg_in, zcl, ze10, ze20, ze30, ze40, f_X9_held_13]
theorem k_below (R : RA σ K) (a : Int32) : zok (f_L_below_0_75 σ a) (fun τ => f_X9_below τ a) (K + 1) := by
  obtain ⟨n, hn, ⟨hc, hm⟩, ht, hbx, hjn, hob, htm, hex⟩ := R.1
  rcases zcase a (n := n) (by omega) with ⟨t, h, rfl⟩ | ho
  · refine zokq_0 (r := zset (fun u => zbl σ u t) n) R ⟨σ, ?_, zQx_refl σ⟩ (fun τ hv => ⟨zp τ 65 3 0, ?_, zp_e _ _ _ _, zMx_3 _ _⟩)
    · rw [f_X8_below, c_tok_in hc hn h, zx_0, p_X7_setBelow hn hc ht h]; rfl
    · have e := hv 66 (by decide) (by decide)
      have ew : (zp τ 65 3 0) 66 = σ 66 := by rw [zp_n _ _ _ (by decide), e]
      rw [f_X9_below, m_tok_in (by rw [e]; exact hm) hn h]
      simp (disch := omega) only [zb_s, zx_0, ↓reduceIte, zp_e, zp_n, e, nI_add, nI_1, zg_in, zcl, ze10, ze20, ze30, ze40, f_X9_below_14]
      refine Eq.trans (zl3_fold (σ := zp τ 65 3 0) (a := nI t) (v := 0) (N := n) (fun v i => if zbl σ i t then v ||| (1 <<< (nI i &&& 31)) else v) (out := fun v => some (v, zp τ 65 3 0)) (fun i hi rec v => ?_) (fun rec v => ?_) (by omega)) (by rw [zset_fold])
      · rw [f_X9_below_21, zp_e, if_pos rfl, zG1, zC1, ew, hm]
        simp (disch := omega) only [znI_le]
        rw [if_neg (by omega), m_isBelow (τ := zp τ 65 3 0) (c := σ) (K := K) hn (by rw [ew]; exact ht) hi h, zb_s, bI_0]
        simp only [f_X9_below_55, nI_1, zor0]
        cases zbl σ i t <;> rfl
      · rw [f_X9_below_21, zp_e, if_pos rfl, zG1, zC1, ew, hm, if_pos (by exact Int32.le_refl _)]
  · refine zokq_e 0 1 R ⟨σ, 0, ?_, zQx_refl σ⟩ (fun _ => rfl) (by decide) (fun τ hv => ⟨zp τ 65 3 1, 0, ?_, zp_e _ _ _ _, zMx_3 _ _⟩)
    · rw [f_X8_below, c_tok_out hc ho]; rfl
    · have e := hv 66 (by decide) (by decide)
      rw [f_X9_below, m_tok_out (by rw [e]; exact hm) hn ho]
      simp (disch := omega) only [zb_s, zx_0, ↓reduceIte, zp_e, zp_n, e, nI_add, nI_1, zg_in, zcl, ze10, ze20, ze30, ze40, f_X9_below_14]
      refine zlr3 0 (fun _ => zp τ 65 3 1) (fun _ => a) (fun _ => 0) (fun _ => 0) (fun i hi => absurd hi (by omega)) (fun rec => ?_) 1000 (by omega)
      rw [f_X9_below_21, zp_e, if_neg (by decide)]
theorem k_token (R : RA σ K) (a b : Int32) : zok (f_L_token_0_75 σ a b) (fun τ => f_X9_token τ a b) (K + 1) := by
  obtain ⟨n, hn, ⟨hc, hm⟩, ht, hbx, hjn, hob, htm, hex⟩ := R.1
  rcases zcase a (n := n) (by omega) with ⟨t, h, rfl⟩ | ho
  · rcases zcase b (n := 7) (by omega) with ⟨w, hw, rfl⟩ | hw
    · have hw7 : w = 0 ∨ w = 1 ∨ w = 2 ∨ w = 3 ∨ w = 4 ∨ w = 5 ∨ w = 6 := by omega
      rcases hw7 with rfl | rfl | rfl | rfl | rfl | rfl | rfl
      · refine zokq_0 (r := σ 3 t) R ⟨σ, ?_, zQx_refl σ⟩ (fun τ hv => ⟨zp τ 65 3 0, ?_, zp_e _ _ _ _, zMx_3 _ _⟩)
        · rw [f_X8_token, c_tok_in hc hn h, zx_0, show nI 0 = 0 from rfl, if_neg (by decide), if_neg (by decide)]
          simp +decide only [f_X8_token_20, f_X8_needArgument, ↓reduceIte, zx_0]
          simp (disch := omega) only [zg_in, zcl]
        · have e := hv 66 (by decide) (by decide)
          have ew : (zp τ 65 3 0) 66 = σ 66 := by rw [zp_n _ _ _ (by decide), e]
          rw [f_X9_token, m_tok_in (by rw [e]; exact hm) hn h, zb_s, if_neg (by decide), m_in τ (n := 7) (s := 0) (by decide) (by decide) (by decide), zb_s, if_neg (by decide)]
          simp +decide only [f_X9_token_28, show nI 0 = 0 from rfl, zp_e, ↓reduceIte]
          have hh := (RT_obj (ht t h)).1
          simp (disch := omega) only [zb_s, zx_0, ↓reduceIte, zp_e, zp_n, e, nI_add, nI_1, zg_in, zcl, ze10, ze20, ze30, ze40, zk51, ew, hh]
      · refine zokq_0 (r := zpa σ t) R ⟨σ, ?_, zQx_refl σ⟩ (fun τ hv => ⟨zp τ 65 3 0, ?_, zp_e _ _ _ _, zMx_3 _ _⟩)
        · rw [f_X8_token, c_tok_in hc hn h, zx_0, show nI 1 = 1 from rfl, if_neg (by decide), if_neg (by decide)]
          simp +decide only [f_X8_token_20, f_X8_needArgument, ↓reduceIte, zx_0]
          rw [p_X7_parentOf hn ht h, zb_s]
        · have e := hv 66 (by decide) (by decide)
          have ew : (zp τ 65 3 0) 66 = σ 66 := by rw [zp_n _ _ _ (by decide), e]
          rw [f_X9_token, m_tok_in (by rw [e]; exact hm) hn h, zb_s, if_neg (by decide), m_in τ (n := 7) (s := 1) (by decide) (by decide) (by decide), zb_s, if_neg (by decide)]
          simp +decide only [f_X9_token_28, show nI 1 = 1 from rfl, zp_e, ↓reduceIte]
          have hh := RT_par (ht t h)
          simp (disch := omega) only [zb_s, zx_0, ↓reduceIte, zp_e, zp_n, e, nI_add, nI_1, zg_in, zcl, ze10, ze20, ze30, ze40, zk79, ew, hh]
      · refine zokq_0 (r := σ 9 t) R ⟨σ, ?_, zQx_refl σ⟩ (fun τ hv => ⟨zp τ 65 3 0, ?_, zp_e _ _ _ _, zMx_3 _ _⟩)
        · rw [f_X8_token, c_tok_in hc hn h, zx_0, show nI 2 = 2 from rfl, if_neg (by decide), if_neg (by decide)]
          simp +decide only [f_X8_token_20, f_X8_needArgument, ↓reduceIte, zx_0]
          simp (disch := omega) only [zg_in, zcl]
        · have e := hv 66 (by decide) (by decide)
          have ew : (zp τ 65 3 0) 66 = σ 66 := by rw [zp_n _ _ _ (by decide), e]
          rw [f_X9_token, m_tok_in (by rw [e]; exact hm) hn h, zb_s, if_neg (by decide), m_in τ (n := 7) (s := 2) (by decide) (by decide) (by decide), zb_s, if_neg (by decide)]
          simp +decide only [f_X9_token_28, show nI 2 = 2 from rfl, zp_e, ↓reduceIte]
          have hh := (RT_cav (ht t h)).1
          simp (disch := omega) only [zb_s, zx_0, ↓reduceIte, zp_e, zp_n, e, nI_add, nI_1, zg_in, zcl, ze10, ze20, ze30, ze40, zk191, ew, hh]
      · refine zokq_0 (r := σ 7 t) R ⟨σ, ?_, zQx_refl σ⟩ (fun τ hv => ⟨zp τ 65 3 0, ?_, zp_e _ _ _ _, zMx_3 _ _⟩)
        · rw [f_X8_token, c_tok_in hc hn h, zx_0, show nI 3 = 3 from rfl, if_neg (by decide), if_neg (by decide)]
          simp +decide only [f_X8_token_20, f_X8_needArgument, ↓reduceIte, zx_0]
          simp (disch := omega) only [zg_in, zcl]
        · have e := hv 66 (by decide) (by decide)
          have ew : (zp τ 65 3 0) 66 = σ 66 := by rw [zp_n _ _ _ (by decide), e]
          rw [f_X9_token, m_tok_in (by rw [e]; exact hm) hn h, zb_s, if_neg (by decide), m_in τ (n := 7) (s := 3) (by decide) (by decide) (by decide), zb_s, if_neg (by decide)]
          simp +decide only [f_X9_token_28, show nI 3 = 3 from rfl, zp_e, ↓reduceIte]
          have hh := (RT_use (ht t h)).1
          simp (disch := omega) only [zb_s, zx_0, ↓reduceIte, zp_e, zp_n, e, nI_add, nI_1, zg_in, zcl, ze10, ze20, ze30, ze40, zk163, ew, hh]
      · refine zokq_0 (r := σ 4 t) R ⟨σ, ?_, zQx_refl σ⟩ (fun τ hv => ?_)
        · rw [f_X8_token, c_tok_in hc hn h, zx_0, show nI 4 = 4 from rfl, if_neg (by decide), if_neg (by decide)]
          simp +decide only [f_X8_token_20, f_X8_needArgument, ↓reduceIte, zx_0]
          simp (disch := omega) only [zg_in, zcl]
        · have e := hv 66 (by decide) (by decide)
          have ew : (zp τ 65 3 0) 66 = σ 66 := by rw [zp_n _ _ _ (by decide), e]
          obtain ⟨τ2, g1, g2, g3⟩ := m_chainOf (τ := zp τ 65 3 0) (c := σ) (K := K) hn (by rw [ew]; exact ht) h
          refine ⟨τ2, ?_, by rw [g2 65 (by decide), zp_e], zMx_trans (zMx_3 τ 0) ⟨fun p hp => g2 p (by omega), fun j hj => by rw [g2 65 (by decide)]⟩⟩
          rw [f_X9_token, m_tok_in (by rw [e]; exact hm) hn h, zb_s, if_neg (by decide), m_in τ (n := 7) (s := 4) (by decide) (by decide) (by decide), zb_s, if_neg (by decide)]
          simp +decide only [f_X9_token_28, show nI 4 = 4 from rfl, zp_e, ↓reduceIte]
          rw [g1, zb_s, (zln_eq (ht t h)).1]
      · refine zokq_0 (r := bI (zed σ t)) R ⟨σ, ?_, zQx_refl σ⟩ (fun τ hv => ⟨zp τ 65 3 0, ?_, zp_e _ _ _ _, zMx_3 _ _⟩)
        · rw [f_X8_token, c_tok_in hc hn h, zx_0, show nI 5 = 5 from rfl, if_neg (by decide), if_neg (by decide)]
          simp +decide only [f_X8_token_20, f_X8_needArgument, ↓reduceIte, zx_0]
          rw [p_X7_isEnded hn ht h, zb_s, bI_0]
          cases zed σ t <;> rfl
        · have e := hv 66 (by decide) (by decide)
          have ew : (zp τ 65 3 0) 66 = σ 66 := by rw [zp_n _ _ _ (by decide), e]
          rw [f_X9_token, m_tok_in (by rw [e]; exact hm) hn h, zb_s, if_neg (by decide), m_in τ (n := 7) (s := 5) (by decide) (by decide) (by decide), zb_s, if_neg (by decide)]
          simp +decide only [f_X9_token_28, show nI 5 = 5 from rfl, zp_e, ↓reduceIte]
          rw [m_revokedIn (τ := zp τ 65 3 0) (c := σ) (K := K) hn (by rw [ew]; exact ht) h, zb_s]
          have hl7 := (zln_eq (ht t h)).2.2
          have hcl := zcnt_le (fun k => σ 8 (zch σ t k) != -1) (zln σ t)
          have hz := zed_cnt (c := σ) (t := t)
          cases q : zed σ t with
          | true =>
            have := hz.mp q
            rw [if_neg (nI_nle this (by omega))]; rfl
          | false =>
            have hq : ¬ 0 < zcnt (fun k => σ 8 (zch σ t k) != -1) (zln σ t) := fun x => by rw [hz.mpr x] at q; cases q
            rw [show zcnt (fun k => σ 8 (zch σ t k) != -1) (zln σ t) = 0 by omega, if_pos (by decide)]; rfl
      · refine zokq_0 (r := nI (zcnt (fun u => decide (zpa σ u = nI t)) n)) R ⟨σ, ?_, zQx_refl σ⟩ (fun τ hv => ⟨zp τ 65 3 0, ?_, zp_e _ _ _ _, zMx_3 _ _⟩)
        · rw [f_X8_token, c_tok_in hc hn h, zx_0, show nI 6 = 6 from rfl, if_neg (by decide), if_neg (by decide)]
          simp +decide only [f_X8_token_20, f_X8_needArgument, ↓reduceIte, zx_0]
          rw [p_X7_derivedFrom hn hc ht, zb_s]
        · have e := hv 66 (by decide) (by decide)
          have ew : (zp τ 65 3 0) 66 = σ 66 := by rw [zp_n _ _ _ (by decide), e]
          rw [f_X9_token, m_tok_in (by rw [e]; exact hm) hn h, zb_s, if_neg (by decide), m_in τ (n := 7) (s := 6) (by decide) (by decide) (by decide), zb_s, if_neg (by decide)]
          simp +decide only [f_X9_token_28, show nI 6 = 6 from rfl, zp_e, ↓reduceIte]
          rw [m_children (τ := zp τ 65 3 0) (c := σ) (K := K) hn (by rw [ew]; exact hm) (by rw [ew]; exact ht), zb_s]
    · refine zokq_e 1 2 R ⟨σ, 0, ?_, zQx_refl σ⟩ (fun _ => rfl) (by decide) (fun τ hv => ⟨zp τ 65 3 2, 0, ?_, zp_e _ _ _ _, zMx_3 _ _⟩)
      · rw [f_X8_token, c_tok_in hc hn h, zx_0]
        by_cases q : b < 0
        · rw [if_pos q]; rfl
        · rw [if_neg q, if_pos (show (6 : Int32) < b from z_gt (k := 6) (by decide) (hw.resolve_left q))]; rfl
      · have e := hv 66 (by decide) (by decide)
        rw [f_X9_token, m_tok_in (by rw [e]; exact hm) hn h, zb_s, if_neg (by decide), m_out τ (n := 7) (by decide) (by decide) hw]
        simp (disch := omega) only [zb_s, zx_0, ↓reduceIte, zp_e, zp_n, e, nI_add, nI_1, zg_in, zcl, ze10, ze20, ze30, ze40, f_X9_token_28]
  · refine zokq_e 0 1 R ⟨σ, 0, ?_, zQx_refl σ⟩ (fun _ => rfl) (by decide) (fun τ hv => ⟨zp τ 65 3 1, 0, ?_, zp_e _ _ _ _, zMx_3 _ _⟩)
    · rw [f_X8_token, c_tok_out hc ho]; rfl
    · have e := hv 66 (by decide) (by decide)
      rw [f_X9_token, m_tok_out (by rw [e]; exact hm) hn ho]
      simp (disch := omega) only [zb_s, zx_0, ↓reduceIte, zp_e, zp_n, e, nI_add, nI_1, zg_in, zcl, ze10, ze20, ze30, ze40, f_X9_token_28]
theorem k_caveat (R : RA σ K) (a b c : Int32) : zok (f_L_caveat_0_75 σ a b c) (fun τ => f_X9_caveat τ a b c) (K + 1) := by
  obtain ⟨n, hn, ⟨hc, hm⟩, ht, hbx, hjn, hob, htm, hex⟩ := R.1
  rcases zcase a (n := n) (by omega) with ⟨t, h, rfl⟩ | ho
  · obtain ⟨e9, e94⟩ := zcv_eq (ht t h)
    rcases zcase b (n := zcv σ t) (by omega) with ⟨q, hq, rfl⟩ | hq
    · have C := RTk_cv (ht t h) hq
      rcases zcase c (n := 3) (by omega) with ⟨w, hw, rfl⟩ | hw
      · have hw3 : w = 0 ∨ w = 1 ∨ w = 2 := by omega
        rcases hw3 with rfl | rfl | rfl
        · refine zokq_0 (r := σ 10 (t * 4 + q)) R ⟨σ, ?_, zQx_refl σ⟩ (fun τ hv => ⟨zp τ 65 3 0, ?_, zp_e _ _ _ _, zMx_3 _ _⟩)
          · rw [f_X8_caveat, c_tok_in hc hn h, zx_0, if_neg (zlt0 (by omega)), zcl (by omega), zg_in _ (by omega) (by omega), e9, if_neg (znle hq (by omega))]
            rw [f_X8_caveat_30, show nI 0 = 0 from rfl]
            simp +decide only [f_X8_needIndex, f_X8_caveat_47, f_X8_needArgument, ↓reduceIte, zx_0]
            simp (disch := omega) only [zk4, nI_mul, nI_add, zg_in, zcl]
          · have e := hv 66 (by decide) (by decide)
            have ew : (zp τ 65 3 0) 66 = σ 66 := by rw [zp_n _ _ _ (by decide), e]
            have m191 := (RT_cav (ht t h)).1
            rw [f_X9_caveat, m_tok_in (by rw [e]; exact hm) hn h, zb_s, if_neg (by decide), zk191, nI_add, zg_in _ (by omega) (by omega), zcl (by omega), e, m191, e9]
            rw [m_in τ (n := zcv σ t) (by omega) rfl hq, zb_s, if_neg (by decide), m_in τ (n := 3) (s := 0) (by decide) (by decide) (by decide), zb_s, if_neg (by decide)]
            simp +decide only [f_X9_caveat_47, zp_e, ↓reduceIte]
            rw [m_part _ (by omega) (by omega) (by omega), zb_s, ew, C.1.1]
        · refine zokq_0 (r := σ 11 (t * 4 + q)) R ⟨σ, ?_, zQx_refl σ⟩ (fun τ hv => ⟨zp τ 65 3 0, ?_, zp_e _ _ _ _, zMx_3 _ _⟩)
          · rw [f_X8_caveat, c_tok_in hc hn h, zx_0, if_neg (zlt0 (by omega)), zcl (by omega), zg_in _ (by omega) (by omega), e9, if_neg (znle hq (by omega))]
            rw [f_X8_caveat_30, show nI 1 = 1 from rfl]
            simp +decide only [f_X8_needIndex, f_X8_caveat_47, f_X8_needArgument, ↓reduceIte, zx_0]
            simp (disch := omega) only [zk4, nI_mul, nI_add, zg_in, zcl]
          · have e := hv 66 (by decide) (by decide)
            have ew : (zp τ 65 3 0) 66 = σ 66 := by rw [zp_n _ _ _ (by decide), e]
            have m191 := (RT_cav (ht t h)).1
            rw [f_X9_caveat, m_tok_in (by rw [e]; exact hm) hn h, zb_s, if_neg (by decide), zk191, nI_add, zg_in _ (by omega) (by omega), zcl (by omega), e, m191, e9]
            rw [m_in τ (n := zcv σ t) (by omega) rfl hq, zb_s, if_neg (by decide), m_in τ (n := 3) (s := 1) (by decide) (by decide) (by decide), zb_s, if_neg (by decide)]
            simp +decide only [f_X9_caveat_47, zp_e, ↓reduceIte]
            rw [m_part _ (by omega) (by omega) (by omega), zb_s, ew, C.1.2.1]
        · refine zokq_0 (r := σ 12 (t * 4 + q)) R ⟨σ, ?_, zQx_refl σ⟩ (fun τ hv => ⟨zp τ 65 3 0, ?_, zp_e _ _ _ _, zMx_3 _ _⟩)
          · rw [f_X8_caveat, c_tok_in hc hn h, zx_0, if_neg (zlt0 (by omega)), zcl (by omega), zg_in _ (by omega) (by omega), e9, if_neg (znle hq (by omega))]
            rw [f_X8_caveat_30, show nI 2 = 2 from rfl]
            simp +decide only [f_X8_needIndex, f_X8_caveat_47, f_X8_needArgument, ↓reduceIte, zx_0]
            simp (disch := omega) only [zk4, nI_mul, nI_add, zg_in, zcl]
          · have e := hv 66 (by decide) (by decide)
            have ew : (zp τ 65 3 0) 66 = σ 66 := by rw [zp_n _ _ _ (by decide), e]
            have m191 := (RT_cav (ht t h)).1
            rw [f_X9_caveat, m_tok_in (by rw [e]; exact hm) hn h, zb_s, if_neg (by decide), zk191, nI_add, zg_in _ (by omega) (by omega), zcl (by omega), e, m191, e9]
            rw [m_in τ (n := zcv σ t) (by omega) rfl hq, zb_s, if_neg (by decide), m_in τ (n := 3) (s := 2) (by decide) (by decide) (by decide), zb_s, if_neg (by decide)]
            simp +decide only [f_X9_caveat_47, zp_e, ↓reduceIte]
            rw [m_part _ (by omega) (by omega) (by omega), zb_s, ew, C.1.2.2]
      · refine zokq_e 1 2 R ⟨σ, 0, ?_, zQx_refl σ⟩ (fun _ => rfl) (by decide) (fun τ hv => ⟨zp τ 65 3 2, 0, ?_, zp_e _ _ _ _, zMx_3 _ _⟩)
        · rw [f_X8_caveat, c_tok_in hc hn h, zx_0, if_neg (zlt0 (by omega)), zcl (by omega), zg_in _ (by omega) (by omega), e9, if_neg (znle hq (by omega))]
          rw [f_X8_caveat_30, f_X8_needIndex, if_neg (by decide), zx_0]
          by_cases q2 : c < 0
          · rw [if_pos q2]; rfl
          · rw [if_neg q2, if_pos (show (2 : Int32) < c from z_gt (k := 2) (by decide) (hw.resolve_left q2))]; rfl
        · have e := hv 66 (by decide) (by decide)
          have m191 := (RT_cav (ht t h)).1
          rw [f_X9_caveat, m_tok_in (by rw [e]; exact hm) hn h, zb_s, if_neg (by decide), zk191, nI_add, zg_in _ (by omega) (by omega), zcl (by omega), e, m191, e9]
          rw [m_in τ (n := zcv σ t) (by omega) rfl hq, zb_s, if_neg (by decide), m_out τ (n := 3) (by decide) (by decide) hw]
          simp (disch := omega) only [zb_s, zx_0, ↓reduceIte, zp_e, zp_n, e, nI_add, nI_1, zg_in, zcl, ze10, ze20, ze30, ze40, f_X9_caveat_47]
    · refine zokq_e 0 1 R ⟨σ, 0, ?_, zQx_refl σ⟩ (fun _ => rfl) (by decide) (fun τ hv => ⟨zp τ 65 3 1, 0, ?_, zp_e _ _ _ _, zMx_3 _ _⟩)
      · rw [f_X8_caveat, c_tok_in hc hn h, zx_0]
        by_cases q : b < 0
        · rw [if_pos q]; rfl
        · rw [if_neg q, zcl (by omega), zg_in _ (by omega) (by omega), e9, if_pos (hq.resolve_left q)]; rfl
      · have e := hv 66 (by decide) (by decide)
        have m191 := (RT_cav (ht t h)).1
        rw [f_X9_caveat, m_tok_in (by rw [e]; exact hm) hn h, zb_s, if_neg (by decide), zk191, nI_add, zg_in _ (by omega) (by omega), zcl (by omega), e, m191, e9]
        rw [m_out τ (n := zcv σ t) (by omega) rfl hq]
        simp (disch := omega) only [zb_s, zx_0, ↓reduceIte, zp_e, zp_n, e, nI_add, nI_1, zg_in, zcl, ze10, ze20, ze30, ze40, f_X9_caveat_47]
  · refine zokq_e 0 1 R ⟨σ, 0, ?_, zQx_refl σ⟩ (fun _ => rfl) (by decide) (fun τ hv => ⟨zp τ 65 3 1, 0, ?_, zp_e _ _ _ _, zMx_3 _ _⟩)
    · rw [f_X8_caveat, c_tok_out hc ho]; rfl
    · have e := hv 66 (by decide) (by decide)
      rw [f_X9_caveat, m_tok_out (by rw [e]; exact hm) hn ho]
      simp (disch := omega) only [zb_s, zx_0, ↓reduceIte, zp_e, zp_n, e, nI_add, nI_1, zg_in, zcl, ze10, ze20, ze30, ze40, f_X9_caveat_47]
theorem k_object (R : RA σ K) (a b : Int32) : zok (f_L_object_0_75 σ a b) (fun τ => f_X9_object τ a b) (K + 1) := by
  obtain ⟨n, hn, ⟨hc, hm⟩, ht, hbx, hjn, hob, htm, hex⟩ := R.1
  rcases zcase a (n := 12) (by omega) with ⟨t, h, rfl⟩ | ho
  · have O := hob t h
    rcases zcase b (n := 3) (by omega) with ⟨w, hw, rfl⟩ | hw
    · have hw3 : w = 0 ∨ w = 1 ∨ w = 2 := by omega
      have loop : ∀ τ : zs, τ 66 = σ 66 → ∀ w : Int32, zlp4 f_X9_object_43 1000 τ (nI t) w 0 0 = if w = 0 then some (σ 22 t, τ) else if w = 1 then some (σ 23 t, τ) else some (nI (zcnt (fun u => decide (σ 3 u = nI t)) n), τ) := by
        intro τ e w
        refine zlr4 n (fun _ => τ) (fun _ => nI t) (fun _ => w) (fun i => nI (zcnt (fun u => decide (σ 3 u = nI t)) i)) nI (fun i hi rec => ?_) (fun rec => ?_) 1000 (by omega)
        · have hh := (RT_obj (ht i hi)).1
          rw [f_X9_object_43, zG1, zC1, e, hm]
          simp (disch := omega) only [znI_le, zk51, nI_add, zg_in, zcl, hh, f_X9_object_74, nI_1, zcnt]
          rw [if_neg (by omega)]
          by_cases q : σ 3 i = nI t
          · rw [if_pos q, if_pos (decide_eq_true q)]
          · rw [if_neg q, if_neg (by rw [decide_eq_false q]; decide)]; simp
        · rw [f_X9_object_43, zG1, zC1, e, hm, if_pos (by exact Int32.le_refl _)]
          simp (disch := omega) only [zk27, zk39, nI_add, zg_in, zcl, e, O.1, O.2]
      rcases hw3 with rfl | rfl | rfl
      · refine zokq_0 (r := σ 22 t) R ⟨σ, ?_, zQx_refl σ⟩ (fun τ hv => ⟨zp τ 65 3 0, ?_, zp_e _ _ _ _, zMx_3 _ _⟩)
        · rw [f_X8_object, c_obj_in σ h, zx_0, show nI 0 = 0 from rfl, if_neg (by decide), if_neg (by decide)]
          simp +decide only [f_X8_object_18, f_X8_needArgument, ↓reduceIte, zx_0]
          simp (disch := omega) only [zg_in, zcl]
        · have e := hv 66 (by decide) (by decide)
          have ew : (zp τ 65 3 0) 66 = σ 66 := by rw [zp_n _ _ _ (by decide), e]
          rw [f_X9_object, m_obj_in τ h, zb_s, if_neg (by decide), m_in τ (n := 3) (s := 0) (by decide) (by decide) (by decide), zb_s, if_neg (by decide)]
          rw [f_X9_object_26, zp_e, if_pos rfl, loop _ ew]
          simp +decide only [↓reduceIte]
      · refine zokq_0 (r := σ 23 t) R ⟨σ, ?_, zQx_refl σ⟩ (fun τ hv => ⟨zp τ 65 3 0, ?_, zp_e _ _ _ _, zMx_3 _ _⟩)
        · rw [f_X8_object, c_obj_in σ h, zx_0, show nI 1 = 1 from rfl, if_neg (by decide), if_neg (by decide)]
          simp +decide only [f_X8_object_18, f_X8_needArgument, ↓reduceIte, zx_0]
          simp (disch := omega) only [zg_in, zcl]
        · have e := hv 66 (by decide) (by decide)
          have ew : (zp τ 65 3 0) 66 = σ 66 := by rw [zp_n _ _ _ (by decide), e]
          rw [f_X9_object, m_obj_in τ h, zb_s, if_neg (by decide), m_in τ (n := 3) (s := 1) (by decide) (by decide) (by decide), zb_s, if_neg (by decide)]
          rw [f_X9_object_26, zp_e, if_pos rfl, loop _ ew]
          simp +decide only [↓reduceIte]
      · refine zokq_0 (r := nI (zcnt (fun u => decide (σ 3 u = nI t)) n)) R ⟨σ, ?_, zQx_refl σ⟩ (fun τ hv => ⟨zp τ 65 3 0, ?_, zp_e _ _ _ _, zMx_3 _ _⟩)
        · rw [f_X8_object, c_obj_in σ h, zx_0, show nI 2 = 2 from rfl, if_neg (by decide), if_neg (by decide)]
          simp +decide only [f_X8_object_18, f_X8_needArgument, ↓reduceIte, zx_0]
          rw [p_X7_numberFor hn hc, zb_s]
        · have e := hv 66 (by decide) (by decide)
          have ew : (zp τ 65 3 0) 66 = σ 66 := by rw [zp_n _ _ _ (by decide), e]
          rw [f_X9_object, m_obj_in τ h, zb_s, if_neg (by decide), m_in τ (n := 3) (s := 2) (by decide) (by decide) (by decide), zb_s, if_neg (by decide)]
          rw [f_X9_object_26, zp_e, if_pos rfl, loop _ ew]
          simp +decide only [↓reduceIte]
    · refine zokq_e 1 2 R ⟨σ, 0, ?_, zQx_refl σ⟩ (fun _ => rfl) (by decide) (fun τ hv => ⟨zp τ 65 3 2, 0, ?_, zp_e _ _ _ _, zMx_3 _ _⟩)
      · rw [f_X8_object, c_obj_in σ h, zx_0]
        by_cases q : b < 0
        · rw [if_pos q]; rfl
        · rw [if_neg q, if_pos (show (2 : Int32) < b from z_gt (k := 2) (by decide) (hw.resolve_left q))]; rfl
      · have e := hv 66 (by decide) (by decide)
        rw [f_X9_object, m_obj_in τ h, zb_s, if_neg (by decide), m_out τ (n := 3) (by decide) (by decide) hw]
        simp (disch := omega) only [zb_s, zx_0, ↓reduceIte, zp_e, zp_n, e, nI_add, nI_1, zg_in, zcl, ze10, ze20, ze30, ze40, f_X9_object_26]
  · refine zokq_e 0 1 R ⟨σ, 0, ?_, zQx_refl σ⟩ (fun _ => rfl) (by decide) (fun τ hv => ⟨zp τ 65 3 1, 0, ?_, zp_e _ _ _ _, zMx_3 _ _⟩)
    · rw [f_X8_object, c_obj_out σ ho]; rfl
    · have e := hv 66 (by decide) (by decide)
      rw [f_X9_object, m_obj_out τ ho]
      simp (disch := omega) only [zb_s, zx_0, ↓reduceIte, zp_e, zp_n, e, nI_add, nI_1, zg_in, zcl, ze10, ze20, ze30, ze40, f_X9_object_26]
theorem k_expired (R : RA σ K) (a : Int32) : zok (f_L_expired_0_75 σ a) (fun τ => f_X9_expired τ a) (K + 1) := by
  obtain ⟨n, hn, ⟨hc, hm⟩, ht, hbx, hjn, hob, htm, hex⟩ := R.1
  obtain ⟨ne, hne, ⟨e1, e2⟩, hrow⟩ := hex
  rcases zcase a (n := ne) (by omega) with ⟨t, h, rfl⟩ | ho
  · refine zokq_0 (r := σ 24 t) R ⟨σ, ?_, zQx_refl σ⟩ (fun τ hv => ⟨zp τ 65 3 0, ?_, zp_e _ _ _ _, zMx_3 _ _⟩)
    · rw [f_X8_expired, if_neg (zlt0 (by omega)), e1, if_neg (znle h (by omega))]
      simp +decide only [f_X8_expired_20, f_X8_needElement, ↓reduceIte, zx_0]
      simp (disch := omega) only [zg_in, zcl]
    · have e := hv 66 (by decide) (by decide)
      have ew : (zp τ 65 3 0) 66 = σ 66 := by rw [zp_n _ _ _ (by decide), e]
      have hh := hrow t h
      rw [f_X9_expired, zG599, zC599, e, m_in τ (n := ne) (by omega) (by rw [e2]) h]
      simp (disch := omega) only [zb_s, zx_0, ↓reduceIte, zp_e, zp_n, e, nI_add, nI_1, zg_in, zcl, ze10, ze20, ze30, ze40, f_X9_expired_24, zk600, ew, hh]
  · refine zokq_e 4 1 R ⟨σ, 0, ?_, zQx_refl σ⟩ (fun _ => rfl) (by decide) (fun τ hv => ⟨zp τ 65 3 1, 0, ?_, zp_e _ _ _ _, zMx_3 _ _⟩)
    · rw [f_X8_expired, e1]
      by_cases q : a < 0
      · rw [if_pos q]; rfl
      · rw [if_neg q, if_pos (ho.resolve_left q)]; rfl
    · have e := hv 66 (by decide) (by decide)
      rw [f_X9_expired, zG599, zC599, e, m_out τ (n := ne) (by omega) (by rw [e2]) ho]
      simp (disch := omega) only [zb_s, zx_0, ↓reduceIte, zp_e, zp_n, e, nI_add, nI_1, zg_in, zcl, ze10, ze20, ze30, ze40, f_X9_expired_24]
theorem k_log (R : RA σ K) (a : Int32) : zok (f_L_log_0_75 σ a) (fun τ => f_X9_log τ a) (K + 1) := by
  obtain ⟨n, hn, ⟨hc, hm⟩, ht, hbx, hjn, hob, htm, hex⟩ := R.1
  obtain ⟨ne, hne, ⟨e1, e2⟩, -, hrow, -⟩ := hjn
  rcases zcase a (n := ne) (by omega) with ⟨t, h, rfl⟩ | ho
  · refine zokq_0 (r := σ 21 t) R ⟨σ, ?_, zQx_refl σ⟩ (fun τ hv => ⟨zp τ 65 3 0, ?_, zp_e _ _ _ _, zMx_3 _ _⟩)
    · rw [f_X8_log, if_neg (zlt0 (by omega)), e1, if_neg (znle h (by omega))]
      simp +decide only [f_X8_log_23, f_X8_needElement, ↓reduceIte, zx_0]
      simp (disch := omega) only [zg_in, zcl]
    · have e := hv 66 (by decide) (by decide)
      have ew : (zp τ 65 3 0) 66 = σ 66 := by rw [zp_n _ _ _ (by decide), e]
      have hh := hrow t (by omega)
      rw [f_X9_log, zG6, zC6, e, m_in τ (n := ne) (by omega) (by rw [e2]) h]
      simp (disch := omega) only [zb_s, zx_0, ↓reduceIte, zp_e, zp_n, e, nI_add, nI_1, zg_in, zcl, ze10, ze20, ze30, ze40, f_X9_log_23, zk7, ew, hh]
  · refine zokq_e 4 1 R ⟨σ, 0, ?_, zQx_refl σ⟩ (fun _ => rfl) (by decide) (fun τ hv => ⟨zp τ 65 3 1, 0, ?_, zp_e _ _ _ _, zMx_3 _ _⟩)
    · rw [f_X8_log, e1]
      by_cases q : a < 0
      · rw [if_pos q]; rfl
      · rw [if_neg q, if_pos (ho.resolve_left q)]; rfl
    · have e := hv 66 (by decide) (by decide)
      rw [f_X9_log, zG6, zC6, e, m_out τ (n := ne) (by omega) (by rw [e2]) ho]
      simp (disch := omega) only [zb_s, zx_0, ↓reduceIte, zp_e, zp_n, e, nI_add, nI_1, zg_in, zcl, ze10, ze20, ze30, ze40, f_X9_log_23]
theorem k_pairOf (R : RA σ K) (a : Int32) : zok (f_L_pairOf_0_75 σ a) (fun τ => f_X9_pairOf τ a) (K + 1) := by
  obtain ⟨n, hn, ⟨hc, hm⟩, ht, hbx, hjn, hob, htm, hex⟩ := R.1
  obtain ⟨np, nx, hnp, hnx, ⟨p1, p2⟩, ⟨x1, x2⟩, hp, hx⟩ := hbx
  rcases zcase a (n := nx) (by omega) with ⟨t, h, rfl⟩ | ho
  · refine zokq_0 (r := σ 17 t) R ⟨σ, ?_, zQx_refl σ⟩ (fun τ hv => ⟨zp τ 65 3 0, ?_, zp_e _ _ _ _, zMx_3 _ _⟩)
    · rw [f_X8_pairOf, c_box_in x1 hnx h]
      simp (disch := omega) only [zx_0, zg_in, zcl]
    · have e := hv 66 (by decide) (by decide)
      have ew : (zp τ 65 3 0) 66 = σ 66 := by rw [zp_n _ _ _ (by decide), e]
      have hh := (hx t h).1.1
      rw [f_X9_pairOf, m_box_in (by rw [e]; exact x2) hnx h]
      simp (disch := omega) only [zb_s, zx_0, ↓reduceIte, zp_e, zp_n, e, nI_add, nI_1, zg_in, zcl, ze10, ze20, ze30, ze40, f_X9_pairOf_14, zk563, hh]
  · refine zokq_e 0 1 R ⟨σ, 0, ?_, zQx_refl σ⟩ (fun _ => rfl) (by decide) (fun τ hv => ⟨zp τ 65 3 1, 0, ?_, zp_e _ _ _ _, zMx_3 _ _⟩)
    · rw [f_X8_pairOf, c_box_out x1 ho]; rfl
    · have e := hv 66 (by decide) (by decide)
      rw [f_X9_pairOf, m_box_out (by rw [e]; exact x2) hnx ho]
      simp (disch := omega) only [zb_s, zx_0, ↓reduceIte, zp_e, zp_n, e, nI_add, nI_1, zg_in, zcl, ze10, ze20, ze30, ze40, f_X9_pairOf_14]
theorem k_report (R : RA σ K) (a b : Int32) : zok (f_L_report_0_75 σ a b) (fun τ => f_X9_report τ a b) (K + 1) := by
  obtain ⟨d, hd, ⟨d1, d2⟩, hr⟩ := R.2.2.1
  rcases zcase a (n := d) (by omega) with ⟨t, h, rfl⟩ | ho
  · rcases zcase b (n := 2) (by omega) with ⟨w, hw, rfl⟩ | hw
    · have hw2 : w = 0 ∨ w = 1 := by omega
      rcases hw2 with rfl | rfl
      · refine zokq_0 (r := σ 50 t) R ⟨σ, ?_, zQx_refl σ⟩ (fun τ hv => ⟨zp τ 65 3 0, ?_, zp_e _ _ _ _, zMx_3 _ _⟩)
        · rw [f_X8_report, if_neg (zlt0 (by omega)), d1, if_neg (znle h (by omega)), show nI 0 = 0 from rfl]
          simp +decide only [f_X8_report_20, f_X8_needElement, f_X8_report_37, f_X8_needArgument, ↓reduceIte, zx_0]
          simp (disch := omega) only [zg_in, zcl]
        · have e := hv 66 (by decide) (by decide)
          have ew : (zp τ 65 3 0) 66 = σ 66 := by rw [zp_n _ _ _ (by decide), e]
          have e65 := hv 65 (by decide) (by decide)
          have e7 := hv 70 (by decide) (by decide)
          have hh := (hr t h).1
          rw [f_X9_report, e65, m_in τ (n := d) (by omega) (by rw [d2]) h, zb_s, if_neg (by decide), m_in τ (n := 2) (s := 0) (by decide) (by decide) (by decide), zb_s, if_neg (by decide)]
          simp +decide only [f_X9_report_33, show nI 0 = 0 from rfl, zp_e, ↓reduceIte]
          simp (disch := omega) only [zb_s, zx_0, ↓reduceIte, zp_e, zp_n, e, nI_add, nI_1, zg_in, zcl, ze10, ze20, ze30, ze40, e7, hh]
      · refine zokq_0 (r := σ 51 t) R ⟨σ, ?_, zQx_refl σ⟩ (fun τ hv => ⟨zp τ 65 3 0, ?_, zp_e _ _ _ _, zMx_3 _ _⟩)
        · rw [f_X8_report, if_neg (zlt0 (by omega)), d1, if_neg (znle h (by omega)), show nI 1 = 1 from rfl]
          simp +decide only [f_X8_report_20, f_X8_needElement, f_X8_report_37, f_X8_needArgument, ↓reduceIte, zx_0]
          simp (disch := omega) only [zg_in, zcl]
        · have e := hv 66 (by decide) (by decide)
          have ew : (zp τ 65 3 0) 66 = σ 66 := by rw [zp_n _ _ _ (by decide), e]
          have e65 := hv 65 (by decide) (by decide)
          have e7 := hv 71 (by decide) (by decide)
          have hh := (hr t h).2
          rw [f_X9_report, e65, m_in τ (n := d) (by omega) (by rw [d2]) h, zb_s, if_neg (by decide), m_in τ (n := 2) (s := 1) (by decide) (by decide) (by decide), zb_s, if_neg (by decide)]
          simp +decide only [f_X9_report_33, show nI 1 = 1 from rfl, zp_e, ↓reduceIte]
          simp (disch := omega) only [zb_s, zx_0, ↓reduceIte, zp_e, zp_n, e, nI_add, nI_1, zg_in, zcl, ze10, ze20, ze30, ze40, e7, hh]
    · refine zokq_e 1 2 R ⟨σ, 0, ?_, zQx_refl σ⟩ (fun _ => rfl) (by decide) (fun τ hv => ⟨zp τ 65 3 2, 0, ?_, zp_e _ _ _ _, zMx_3 _ _⟩)
      · rw [f_X8_report, if_neg (zlt0 (by omega)), d1, if_neg (znle h (by omega))]
        have n0 : b ≠ 0 := fun q => by subst q; revert hw; decide
        have n1 : b ≠ 1 := fun q => by subst q; revert hw; decide
        simp only [f_X8_report_20, f_X8_needElement, ze10, ↓reduceIte, zx_0, n0, n1, f_X8_report_37, f_X8_needArgument]
        rfl
      · have e := hv 66 (by decide) (by decide)
        have e65 := hv 65 (by decide) (by decide)
        rw [f_X9_report, e65, m_in τ (n := d) (by omega) (by rw [d2]) h, zb_s, if_neg (by decide), m_out τ (n := 2) (by decide) (by decide) hw]
        simp (disch := omega) only [zb_s, zx_0, ↓reduceIte, zp_e, zp_n, e, nI_add, nI_1, zg_in, zcl, ze10, ze20, ze30, ze40, f_X9_report_33]
  · refine zokq_e 4 1 R ⟨σ, 0, ?_, zQx_refl σ⟩ (fun _ => rfl) (by decide) (fun τ hv => ⟨zp τ 65 3 1, 0, ?_, zp_e _ _ _ _, zMx_3 _ _⟩)
    · rw [f_X8_report, d1]
      by_cases q : a < 0
      · rw [if_pos q]; rfl
      · rw [if_neg q, if_pos (ho.resolve_left q)]; rfl
    · have e := hv 66 (by decide) (by decide)
      have e65 := hv 65 (by decide) (by decide)
      rw [f_X9_report, e65, m_out τ (n := d) (by omega) (by rw [d2]) ho]
      simp (disch := omega) only [zb_s, zx_0, ↓reduceIte, zp_e, zp_n, e, nI_add, nI_1, zg_in, zcl, ze10, ze20, ze30, ze40, f_X9_report_33]
end PH
