/-! boxes -/
theorem zor_e {x : Int32} (h : zr x 64) {s : Nat} (hs : s < 6) : zr (x ||| (1 : Int32) <<< (nI s &&& 31)) 64 := by
  obtain ⟨v, h1, h2⟩ := zr_or h hs
  exact ⟨v, h1, by omega, h2⟩
theorem zr_sh {s : Nat} (hs : s < 6) : zr ((1 : Int32) <<< (nI s &&& 31)) 64 := ⟨2 ^ s, (zsh s hs).2, by have := (zsh s hs).2; omega, (zsh s hs).1⟩
section PN
variable {σ : zs} {K : Nat}
theorem zp_pp (σ : zs) (k j : Nat) (v : Int32) : zp σ k j v k j = v := zp_e σ k j v
theorem k_givePair (R : RA σ K) (a b c : Int32) {u : Nat} (hu : u < 2) : zok (f_L_givePair_0_75 σ a b c (nI u)) (fun τ => f_X9_givePair τ a b c (nI u)) (K + 1) := by
  obtain ⟨n, hS⟩ := R.1
  have hS0 := hS
  obtain ⟨hn, ⟨hc, hm⟩, ht, hbx, hjn, hob, htm, hex⟩ := hS
  have hbx0 := hbx
  obtain ⟨np, nx, hnp, hnx, ⟨p1, p2⟩, ⟨x1, x2⟩, hp, hx⟩ := hbx
  have o28 : ∀ τ : zs, f_X9_givePair_28 τ a b c (nI u) 1 = some (0, zp τ 65 3 1) := fun τ => by rw [f_X9_givePair_28, zp_e, if_neg (by decide)]
  rcases zcase a (n := 6) (by omega) with ⟨s, hs, rfl⟩ | ho
  · rcases zcase b (n := 6) (by omega) with ⟨s2, hs2, rfl⟩ | ho2
    · rcases zcase c (n := np) (by omega) with ⟨p, h, rfl⟩ | hw
      · have hu2 : u = 0 ∨ u = 1 := by omega
        rcases hu2 with rfl | rfl
        · have hh := (hp p h).1
          obtain ⟨s1, g1, g2⟩ := p_holdsPart (σ := σ) hs (show p < 4 by omega) (0 : Int32)
          rw [if_pos (show (0 : Int32) = 0 from rfl)] at g1 g2
          have md : ∀ τ : zs, τ 66 = σ 66 → f_X9_givePair τ (nI s) (nI s2) (nI p) (nI 0) = f_X9_givePair_54 (zp τ 65 3 0) (nI s) (nI s2) (nI p) (555 : Int32) := by
            intro τ e
            rw [f_X9_givePair, m_sub_in _ hs, zb_s, if_neg (by decide), m_sub_in _ hs2, zb_s, if_neg (by decide), m_pair_in (by rw [e]; exact p2) hnp h, zb_s, if_neg (by decide), f_X9_givePair_28, zp_e, if_pos rfl]
            rfl
          cases hb : zbit (σ 15 p) s with
          | true =>
            rw [hb] at g2 g1
            rw [if_pos rfl] at g2
            subst g2
            refine zok_0 (r := s1 15 p ||| (1 : Int32) <<< (nI s2 &&& 31)) (σ1 := zp s1 15 p (s1 15 p ||| (1 : Int32) <<< (nI s2 &&& 31))) (σ2 := zp (zp (zp (zp (zp s1 15 p (s1 15 p ||| (1 : Int32) <<< (nI s2 &&& 31))) 75 0 (s1 15 p ||| (1 : Int32) <<< (nI s2 &&& 31))) 65 3 0) 65 3 0) 66 (555 + p) (s1 15 p ||| (1 : Int32) <<< (nI s2 &&& 31))) ?_ ?_ ?_ ?_ ?_
            · rw [f_X8_givePair, c_sub_in _ hs, zx_0, c_sub_in _ hs2, zx_0, c_pair_in p1 hnp h, zx_0, show nI 0 = (0 : Int32) from rfl, g1, zb_s, f_X8_needPermission, if_neg (by decide), zx_0]
              simp +decide (disch := omega) only [↓reduceIte, zg_in, zcl, zp_e]
            · rw [md _ (by rw [zp_n _ _ _ (by decide), zp_n _ _ _ (by decide)]), f_X9_givePair_54]
              simp (disch := omega) only [zk555, nI_add, zg_in, zcl, zp_n, hh.1]
              rw [p_has _ _ (show s < 32 by omega), zb_s, hb, if_neg (by decide), f_X9_givePair_84]
              simp (disch := omega) only [zp_e, ↓reduceIte, zg_in, zcl, zp_n, hh.1, zp_pp]
            · rw [zp_n _ _ _ (by decide), zp_e]
            · rw [zp_n _ _ _ (by decide), zp_n _ _ _ (by decide), zp_n _ _ _ (by decide)]
            · refine RA_new (n := n) R (RS_box (Nat.le_succ K) hS0 (fun q hq => ?_) (fun j hj => ?_) ⟨np, nx, hnp, hnx, ⟨?_, ?_⟩, ⟨?_, ?_⟩, fun i hi => ?_, fun i hi => ?_⟩) (fun q hq => ?_) (fun j hj => ?_)
              · rw [zp_n _ _ _ (by omega), zp_n _ _ _ (by omega), zp_n _ _ _ (by omega), zp_n _ _ _ (by omega), zp_n _ _ _ (by omega)]
              · rw [zp_o _ _ (by omega), zp_n _ _ _ (by decide), zp_n _ _ _ (by decide), zp_n _ _ _ (by decide), zp_n _ _ _ (by decide)]
              · rw [zp_n _ _ _ (by decide), zp_n _ _ _ (by decide), zp_n _ _ _ (by decide), zp_n _ _ _ (by decide), zp_n _ _ _ (by decide)]; exact p1
              · rw [zp_o _ _ (by omega), zp_n _ _ _ (by decide), zp_n _ _ _ (by decide), zp_n _ _ _ (by decide), zp_n _ _ _ (by decide)]; exact p2
              · rw [zp_n _ _ _ (by decide), zp_n _ _ _ (by decide), zp_n _ _ _ (by decide), zp_n _ _ _ (by decide), zp_n _ _ _ (by decide)]; exact x1
              · rw [zp_o _ _ (by omega), zp_n _ _ _ (by decide), zp_n _ _ _ (by decide), zp_n _ _ _ (by decide), zp_n _ _ _ (by decide)]; exact x2
              · by_cases e : i = p
                · subst e
                  simp (disch := omega) only [zp_n, zp_o, zp_e]
                  obtain ⟨⟨y1, y2⟩, y3, y4⟩ := hp i hi
                  exact ⟨⟨trivial, zor_e y2 hs2⟩, y3, y4⟩
                · simp (disch := omega) only [zp_n, zp_o]
                  exact hp i hi
              · simp (disch := omega) only [zp_n, zp_o]
                exact hx i hi
              · rw [zp_n _ _ _ (by omega), zp_n _ _ _ (by omega), zp_n _ _ _ (by omega), zp_n _ _ _ (by omega), zp_n _ _ _ (by omega)]
              · rw [zp_n _ _ _ (by decide), zp_o _ _ (by omega), zp_o _ _ (by omega), zp_n _ _ _ (by decide), zp_n _ _ _ (by decide)]
          | false =>
            rw [hb] at g2 g1
            rw [if_neg (by decide)] at g2
            refine zok_rep 3 2 R (L := [(5, nI p)]) (by simp) (σ1 := s1) (r := 0) ?_ (zFa_3 g2.1) g2.2 (fun _ => rfl) (by decide) ?_
            · rw [f_X8_givePair, c_sub_in _ hs, zx_0, c_sub_in _ hs2, zx_0, c_pair_in p1 hnp h, zx_0, show nI 0 = (0 : Int32) from rfl, g1, zb_s, f_X8_needPermission, if_pos (show bI false = 0 from rfl)]; rfl
            · have e66 : s1 66 = σ 66 := g2.1 66 (by decide) (by decide) (by decide)
              obtain ⟨σ2, r', m1, m2, m3, m4, m5⟩ := m_rep (zp s1 65 3 0) 5 (nI p) 2 (kk := 2) (r := 0) (f := fun r8 σ9 => f_X9_givePair_84 σ9 (nI s2) (nI (555 + p)) r8) (fun τ' _ => by rw [f_X9_givePair_84, zp_e, if_neg (by decide)])
              refine ⟨σ2, r', ?_, m2, fun q q1 q2 q3 q4 => by rw [m3 q q1 q2 q3 q4, zp_n _ _ _ q1], fun j j1 j2 => by rw [m4 j j1 j2, zp_o _ _ j1], m5⟩
              rw [md _ e66, f_X9_givePair_54]
              simp (disch := omega) only [zk555, nI_add, zg_in, zcl, zp_n, e66, hh.1]
              rw [p_has _ _ (show s < 32 by omega), zb_s, hb, if_pos (show bI false = 0 from rfl)]
              exact m1
        · have hh := (hp p h).2
          obtain ⟨s1, g1, g2⟩ := p_holdsPart (σ := σ) hs (show p < 4 by omega) (1 : Int32)
          rw [if_neg (show ¬ (1 : Int32) = 0 by decide)] at g1 g2
          have md : ∀ τ : zs, τ 66 = σ 66 → f_X9_givePair τ (nI s) (nI s2) (nI p) (nI 1) = f_X9_givePair_54 (zp τ 65 3 0) (nI s) (nI s2) (nI p) (559 : Int32) := by
            intro τ e
            rw [f_X9_givePair, m_sub_in _ hs, zb_s, if_neg (by decide), m_sub_in _ hs2, zb_s, if_neg (by decide), m_pair_in (by rw [e]; exact p2) hnp h, zb_s, if_neg (by decide), f_X9_givePair_28, zp_e, if_pos rfl]
            rfl
          cases hb : zbit (σ 16 p) s with
          | true =>
            rw [hb] at g2 g1
            rw [if_pos rfl] at g2
            subst g2
            refine zok_0 (r := s1 16 p ||| (1 : Int32) <<< (nI s2 &&& 31)) (σ1 := zp s1 16 p (s1 16 p ||| (1 : Int32) <<< (nI s2 &&& 31))) (σ2 := zp (zp (zp (zp (zp s1 16 p (s1 16 p ||| (1 : Int32) <<< (nI s2 &&& 31))) 75 0 (s1 16 p ||| (1 : Int32) <<< (nI s2 &&& 31))) 65 3 0) 65 3 0) 66 (559 + p) (s1 16 p ||| (1 : Int32) <<< (nI s2 &&& 31))) ?_ ?_ ?_ ?_ ?_
            · rw [f_X8_givePair, c_sub_in _ hs, zx_0, c_sub_in _ hs2, zx_0, c_pair_in p1 hnp h, zx_0, show nI 1 = (1 : Int32) from rfl, g1, zb_s, f_X8_needPermission, if_neg (by decide), zx_0]
              simp +decide (disch := omega) only [↓reduceIte, zg_in, zcl, zp_e]
            · rw [md _ (by rw [zp_n _ _ _ (by decide), zp_n _ _ _ (by decide)]), f_X9_givePair_54]
              simp (disch := omega) only [zk559, nI_add, zg_in, zcl, zp_n, hh.1]
              rw [p_has _ _ (show s < 32 by omega), zb_s, hb, if_neg (by decide), f_X9_givePair_84]
              simp (disch := omega) only [zp_e, ↓reduceIte, zg_in, zcl, zp_n, hh.1, zp_pp]
            · rw [zp_n _ _ _ (by decide), zp_e]
            · rw [zp_n _ _ _ (by decide), zp_n _ _ _ (by decide), zp_n _ _ _ (by decide)]
            · refine RA_new (n := n) R (RS_box (Nat.le_succ K) hS0 (fun q hq => ?_) (fun j hj => ?_) ⟨np, nx, hnp, hnx, ⟨?_, ?_⟩, ⟨?_, ?_⟩, fun i hi => ?_, fun i hi => ?_⟩) (fun q hq => ?_) (fun j hj => ?_)
              · rw [zp_n _ _ _ (by omega), zp_n _ _ _ (by omega), zp_n _ _ _ (by omega), zp_n _ _ _ (by omega), zp_n _ _ _ (by omega)]
              · rw [zp_o _ _ (by omega), zp_n _ _ _ (by decide), zp_n _ _ _ (by decide), zp_n _ _ _ (by decide), zp_n _ _ _ (by decide)]
              · rw [zp_n _ _ _ (by decide), zp_n _ _ _ (by decide), zp_n _ _ _ (by decide), zp_n _ _ _ (by decide), zp_n _ _ _ (by decide)]; exact p1
              · rw [zp_o _ _ (by omega), zp_n _ _ _ (by decide), zp_n _ _ _ (by decide), zp_n _ _ _ (by decide), zp_n _ _ _ (by decide)]; exact p2
              · rw [zp_n _ _ _ (by decide), zp_n _ _ _ (by decide), zp_n _ _ _ (by decide), zp_n _ _ _ (by decide), zp_n _ _ _ (by decide)]; exact x1
              · rw [zp_o _ _ (by omega), zp_n _ _ _ (by decide), zp_n _ _ _ (by decide), zp_n _ _ _ (by decide), zp_n _ _ _ (by decide)]; exact x2
              · by_cases e : i = p
                · subst e
                  simp (disch := omega) only [zp_n, zp_o, zp_e]
                  obtain ⟨⟨y1, y2⟩, y3, y4⟩ := hp i hi
                  exact ⟨⟨y1, y2⟩, trivial, zor_e y4 hs2⟩
                · simp (disch := omega) only [zp_n, zp_o]
                  exact hp i hi
              · simp (disch := omega) only [zp_n, zp_o]
                exact hx i hi
              · rw [zp_n _ _ _ (by omega), zp_n _ _ _ (by omega), zp_n _ _ _ (by omega), zp_n _ _ _ (by omega), zp_n _ _ _ (by omega)]
              · rw [zp_n _ _ _ (by decide), zp_o _ _ (by omega), zp_o _ _ (by omega), zp_n _ _ _ (by decide), zp_n _ _ _ (by decide)]
          | false =>
            rw [hb] at g2 g1
            rw [if_neg (by decide)] at g2
            refine zok_rep 3 2 R (L := [(5, nI p)]) (by simp) (σ1 := s1) (r := 0) ?_ (zFa_3 g2.1) g2.2 (fun _ => rfl) (by decide) ?_
            · rw [f_X8_givePair, c_sub_in _ hs, zx_0, c_sub_in _ hs2, zx_0, c_pair_in p1 hnp h, zx_0, show nI 1 = (1 : Int32) from rfl, g1, zb_s, f_X8_needPermission, if_pos (show bI false = 0 from rfl)]; rfl
            · have e66 : s1 66 = σ 66 := g2.1 66 (by decide) (by decide) (by decide)
              obtain ⟨σ2, r', m1, m2, m3, m4, m5⟩ := m_rep (zp s1 65 3 0) 5 (nI p) 2 (kk := 2) (r := 0) (f := fun r8 σ9 => f_X9_givePair_84 σ9 (nI s2) (nI (559 + p)) r8) (fun τ' _ => by rw [f_X9_givePair_84, zp_e, if_neg (by decide)])
              refine ⟨σ2, r', ?_, m2, fun q q1 q2 q3 q4 => by rw [m3 q q1 q2 q3 q4, zp_n _ _ _ q1], fun j j1 j2 => by rw [m4 j j1 j2, zp_o _ _ j1], m5⟩
              rw [md _ e66, f_X9_givePair_54]
              simp (disch := omega) only [zk559, nI_add, zg_in, zcl, zp_n, e66, hh.1]
              rw [p_has _ _ (show s < 32 by omega), zb_s, hb, if_pos (show bI false = 0 from rfl)]
              exact m1
      · refine zokq_e 0 1 R ⟨σ, 0, ?_, zQx_refl σ⟩ (fun _ => rfl) (by decide) (fun τ hv => ⟨zp τ 65 3 1, 0, ?_, zp_e _ _ _ _, zMx_3 _ _⟩)
        · rw [f_X8_givePair, c_sub_in σ hs, zx_0, c_sub_in σ hs2, zx_0, c_pair_out p1 hw]; rfl
        · have e := hv 66 (by decide) (by decide)
          rw [f_X9_givePair, m_sub_in _ hs, zb_s, if_neg (by decide), m_sub_in _ hs2, zb_s, if_neg (by decide), m_pair_out (by rw [e]; exact p2) hnp hw, zb_s, if_pos rfl, o28]
    · refine zokq_e 0 1 R ⟨σ, 0, ?_, zQx_refl σ⟩ (fun _ => rfl) (by decide) (fun τ hv => ⟨zp τ 65 3 1, 0, ?_, zp_e _ _ _ _, zMx_3 _ _⟩)
      · rw [f_X8_givePair, c_sub_in σ hs, zx_0, c_sub_out σ ho2]; rfl
      · rw [f_X9_givePair, m_sub_in _ hs, zb_s, if_neg (by decide), m_sub_out _ ho2, zb_s, if_pos rfl, o28]
  · refine zokq_e 0 1 R ⟨σ, 0, ?_, zQx_refl σ⟩ (fun _ => rfl) (by decide) (fun τ hv => ⟨zp τ 65 3 1, 0, ?_, zp_e _ _ _ _, zMx_3 _ _⟩)
    · rw [f_X8_givePair, c_sub_out σ ho]; rfl
    · rw [f_X9_givePair, m_sub_out _ ho, zb_s, if_pos rfl, o28]
theorem k_makePair (R : RA σ K) (a : Int32) : zok (f_L_makePair_0_75 σ a) (fun τ => f_X9_makePair τ a) (K + 1) := by
  obtain ⟨n, hS⟩ := R.1
  have hS0 := hS
  obtain ⟨hn, ⟨hc, hm⟩, ht, hbx, hjn, hob, htm, hex⟩ := hS
  have hbx0 := hbx
  obtain ⟨np, nx, hnp, hnx, ⟨p1, p2⟩, ⟨x1, x2⟩, hp, hx⟩ := hbx
  rcases zcase a (n := 6) (by omega) with ⟨s, hs, rfl⟩ | ho
  · by_cases hf : np < 4
    · refine zok_0 (r := nI np) (σ1 := zp (zp (zp σ 15 np ((1 : Int32) <<< (nI s &&& 31))) 16 np ((1 : Int32) <<< (nI s &&& 31))) 14 0 (nI (np + 1))) (σ2 := zp (zp (zp (zp (zp (zp (zp (zp σ 15 np ((1 : Int32) <<< (nI s &&& 31))) 16 np ((1 : Int32) <<< (nI s &&& 31))) 14 0 (nI (np + 1))) 75 0 (nI np)) 65 3 0) 66 (555 + np) ((1 : Int32) <<< (nI s &&& 31))) 66 (559 + np) ((1 : Int32) <<< (nI s &&& 31))) 66 2 (nI (np + 1))) ?_ ?_ ?_ ?_ ?_
      · rw [f_X8_makePair, c_sub_in σ hs, zx_0, p1, if_neg (by rw [zk4, znI_le (by omega) (by omega)]; omega), f_X8_makePair_23, f_X8_needState, if_neg (by decide), zx_0, f_X0_addPair]
        simp (disch := omega) only [p1, zg_in, zcl, zp_n, zb_s, nI_1]
      · rw [f_X9_makePair, m_sub_in _ hs, zb_s, if_neg (by decide), zG2, zC2]
        simp (disch := omega) only [zp_n, p2]
        rw [if_neg (by rw [zk4, znI_inj (by omega) (by omega)]; omega), f_X9_makePair_27, zp_e, if_pos rfl, zG2, zG2, zG2, zC2]
        simp (disch := omega) only [zp_n, zp_o, p2, zk555, zk559, nI_add, zg_in, zcl, nI_1]
      · rw [zp_n _ _ _ (by decide), zp_n _ _ _ (by decide), zp_n _ _ _ (by decide), zp_e]
      · rw [zp_n _ _ _ (by decide), zp_n _ _ _ (by decide), zp_n _ _ _ (by decide), zp_n _ _ _ (by decide)]
      · refine RA_new (n := n) R (RS_box (Nat.le_succ K) hS0 (fun p hp => ?_) (fun j hj => ?_) ⟨np + 1, nx, by omega, hnx, ⟨?_, ?_⟩, ⟨?_, ?_⟩, fun i hi => ?_, fun i hi => ?_⟩) (fun p hp => ?_) (fun j hj => ?_)
        · rw [zp_n _ _ _ (by omega), zp_n _ _ _ (by omega), zp_n _ _ _ (by omega), zp_n _ _ _ (by omega), zp_n _ _ _ (by omega), zp_n _ _ _ (by omega), zp_n _ _ _ (by omega), zp_n _ _ _ (by omega)]
        · rw [zp_o _ _ (by omega), zp_o _ _ (by omega), zp_o _ _ (by omega), zp_n _ _ _ (by decide), zp_n _ _ _ (by decide), zp_n _ _ _ (by decide), zp_n _ _ _ (by decide), zp_n _ _ _ (by decide)]
        · rw [zp_n _ _ _ (by decide), zp_n _ _ _ (by decide), zp_n _ _ _ (by decide), zp_n _ _ _ (by decide), zp_n _ _ _ (by decide), zp_e]
        · rw [zp_e]
        · rw [zp_n _ _ _ (by decide), zp_n _ _ _ (by decide), zp_n _ _ _ (by decide), zp_n _ _ _ (by decide), zp_n _ _ _ (by decide), zp_o _ _ (by decide), zp_n _ _ _ (by decide), zp_n _ _ _ (by decide)]; exact x1
        · rw [zp_o _ _ (by decide), zp_o _ _ (by omega), zp_o _ _ (by omega), zp_n _ _ _ (by decide), zp_n _ _ _ (by decide), zp_n _ _ _ (by decide), zp_n _ _ _ (by decide), zp_n _ _ _ (by decide)]; exact x2
        · by_cases e : i = np
          · subst e
            simp (disch := omega) only [zp_n, zp_o, zp_e]
            exact ⟨⟨trivial, zr_sh hs⟩, trivial, zr_sh hs⟩
          · simp (disch := omega) only [zp_n, zp_o]
            exact hp i (by omega)
        · simp (disch := omega) only [zp_n, zp_o]
          obtain ⟨⟨y1, y2⟩, y3⟩ := hx i hi
          exact ⟨⟨y1, zr_le y2 (by omega)⟩, y3⟩
        · rw [zp_n _ _ _ (by omega), zp_n _ _ _ (by omega), zp_n _ _ _ (by omega), zp_n _ _ _ (by omega), zp_n _ _ _ (by omega), zp_n _ _ _ (by omega), zp_n _ _ _ (by omega), zp_n _ _ _ (by omega)]
        · rw [zp_n _ _ _ (by decide), zp_n _ _ _ (by decide), zp_n _ _ _ (by decide), zp_o _ _ (by omega), zp_n _ _ _ (by decide), zp_n _ _ _ (by decide), zp_n _ _ _ (by decide), zp_n _ _ _ (by decide)]
    · refine zokq_e 2 2 R ⟨σ, 0, ?_, zQx_refl σ⟩ (fun _ => rfl) (by decide) (fun τ hv => ⟨zp τ 65 3 2, 0, ?_, zp_e _ _ _ _, zMx_3 _ _⟩)
      · rw [f_X8_makePair, c_sub_in σ hs, zx_0, p1, if_pos (by rw [zk4, znI_le (by omega) (by omega)]; omega)]; rfl
      · have e := hv 66 (by decide) (by decide)
        rw [f_X9_makePair, m_sub_in _ hs, zb_s, if_neg (by decide), zG2, zC2, e, p2, if_pos (by rw [show np = 4 by omega]; rfl), f_X9_makePair_27, zp_e, if_neg (by decide)]
  · refine zokq_e 0 1 R ⟨σ, 0, ?_, zQx_refl σ⟩ (fun _ => rfl) (by decide) (fun τ hv => ⟨zp τ 65 3 1, 0, ?_, zp_e _ _ _ _, zMx_3 _ _⟩)
    · rw [f_X8_makePair, c_sub_out σ ho]; rfl
    · have e := hv 66 (by decide) (by decide)
      rw [f_X9_makePair, m_sub_out _ ho, zb_s, if_pos rfl, f_X9_makePair_27, zp_e, if_neg (by decide)]
theorem k_giveBox (R : RA σ K) (a b c : Int32) : zok (f_L_giveBox_0_75 σ a b c) (fun τ => f_X9_giveBox τ a b c) (K + 1) := by
  obtain ⟨n, hS⟩ := R.1
  have hS0 := hS
  obtain ⟨hn, ⟨hc, hm⟩, ht, hbx, hjn, hob, htm, hex⟩ := hS
  have hbx0 := hbx
  obtain ⟨np, nx, hnp, hnx, ⟨p1, p2⟩, ⟨x1, x2⟩, hp, hx⟩ := hbx
  have o28 : ∀ τ : zs, f_X9_giveBox_28 τ a b c 1 = some (0, zp τ 65 3 1) := fun τ => by rw [f_X9_giveBox_28, zp_e, if_neg (by decide), f_X9_giveBox_71, zp_e, if_neg (by decide)]
  rcases zcase a (n := 6) (by omega) with ⟨s, hs, rfl⟩ | ho
  · rcases zcase b (n := 6) (by omega) with ⟨s2, hs2, rfl⟩ | ho2
    · rcases zcase c (n := nx) (by omega) with ⟨p, h, rfl⟩ | hw
      · have hh := (hx p h).2.2
        obtain ⟨s1, g1, g2⟩ := p_holdsBox (σ := σ) hs (show p < 12 by omega)
        have md : ∀ τ : zs, τ 66 = σ 66 → f_X9_giveBox τ (nI s) (nI s2) (nI p) = f_X9_giveBox_28 τ (nI s) (nI s2) (nI p) 0 := by
          intro τ e
          rw [f_X9_giveBox, m_sub_in _ hs, zb_s, if_neg (by decide), m_sub_in _ hs2, zb_s, if_neg (by decide), m_box_in (by rw [e]; exact x2) hnx h, zb_s, if_neg (by decide)]
        cases hb : zbit (σ 19 p) s with
        | true =>
          rw [hb] at g2 g1
          rw [if_pos rfl] at g2
          subst g2
          refine zok_0 (r := s1 19 p ||| (1 : Int32) <<< (nI s2 &&& 31)) (σ1 := zp s1 19 p (s1 19 p ||| (1 : Int32) <<< (nI s2 &&& 31))) (σ2 := zp (zp (zp (zp (zp s1 19 p (s1 19 p ||| (1 : Int32) <<< (nI s2 &&& 31))) 75 0 (s1 19 p ||| (1 : Int32) <<< (nI s2 &&& 31))) 65 3 0) 65 3 0) 66 (587 + p) (s1 19 p ||| (1 : Int32) <<< (nI s2 &&& 31))) ?_ ?_ ?_ ?_ ?_
          · rw [f_X8_giveBox, c_sub_in _ hs, zx_0, c_sub_in _ hs2, zx_0, c_box_in x1 hnx h, zx_0, g1, zb_s, f_X8_needPermission, if_neg (by decide), zx_0]
            simp (disch := omega) only [zg_in, zcl, zp_e]
          · rw [md _ (by rw [zp_n _ _ _ (by decide), zp_n _ _ _ (by decide)]), f_X9_giveBox_28, zp_e, if_pos rfl]
            simp (disch := omega) only [zk587, nI_add, zg_in, zcl, zp_n, hh.1]
            rw [p_has _ _ (show s < 32 by omega), zb_s, hb, if_neg (by decide), f_X9_giveBox_71]
            simp (disch := omega) only [zp_e, ↓reduceIte, zk587, nI_add, zg_in, zcl, zp_n, hh.1]
          · rw [zp_n _ _ _ (by decide), zp_e]
          · rw [zp_n _ _ _ (by decide), zp_n _ _ _ (by decide), zp_n _ _ _ (by decide)]
          · refine RA_new (n := n) R (RS_box (Nat.le_succ K) hS0 (fun q hq => ?_) (fun j hj => ?_) ⟨np, nx, hnp, hnx, ⟨?_, ?_⟩, ⟨?_, ?_⟩, fun i hi => ?_, fun i hi => ?_⟩) (fun q hq => ?_) (fun j hj => ?_)
            · rw [zp_n _ _ _ (by omega), zp_n _ _ _ (by omega), zp_n _ _ _ (by omega), zp_n _ _ _ (by omega), zp_n _ _ _ (by omega)]
            · rw [zp_o _ _ (by omega), zp_n _ _ _ (by decide), zp_n _ _ _ (by decide), zp_n _ _ _ (by decide), zp_n _ _ _ (by decide)]
            · rw [zp_n _ _ _ (by decide), zp_n _ _ _ (by decide), zp_n _ _ _ (by decide), zp_n _ _ _ (by decide), zp_n _ _ _ (by decide)]; exact p1
            · rw [zp_o _ _ (by omega), zp_n _ _ _ (by decide), zp_n _ _ _ (by decide), zp_n _ _ _ (by decide), zp_n _ _ _ (by decide)]; exact p2
            · rw [zp_n _ _ _ (by decide), zp_n _ _ _ (by decide), zp_n _ _ _ (by decide), zp_n _ _ _ (by decide), zp_n _ _ _ (by decide)]; exact x1
            · rw [zp_o _ _ (by omega), zp_n _ _ _ (by decide), zp_n _ _ _ (by decide), zp_n _ _ _ (by decide), zp_n _ _ _ (by decide)]; exact x2
            · simp (disch := omega) only [zp_n, zp_o]
              exact hp i hi
            · by_cases e : i = p
              · subst e
                simp (disch := omega) only [zp_n, zp_o, zp_e]
                obtain ⟨y1, y2, y3, y4⟩ := hx i hi
                exact ⟨y1, y2, trivial, zor_e y4 hs2⟩
              · simp (disch := omega) only [zp_n, zp_o]
                exact hx i hi
            · rw [zp_n _ _ _ (by omega), zp_n _ _ _ (by omega), zp_n _ _ _ (by omega), zp_n _ _ _ (by omega), zp_n _ _ _ (by omega)]
            · rw [zp_n _ _ _ (by decide), zp_o _ _ (by omega), zp_o _ _ (by omega), zp_n _ _ _ (by decide), zp_n _ _ _ (by decide)]
        | false =>
          rw [hb] at g2 g1
          rw [if_neg (by decide)] at g2
          refine zok_rep 3 2 R (L := [(6, nI p)]) (by simp) (σ1 := s1) (r := 0) ?_ (zFa_3 g2.1) g2.2 (fun _ => rfl) (by decide) ?_
          · rw [f_X8_giveBox, c_sub_in _ hs, zx_0, c_sub_in _ hs2, zx_0, c_box_in x1 hnx h, zx_0, g1, zb_s, f_X8_needPermission, if_pos (show bI false = 0 from rfl)]; rfl
          · have e66 : s1 66 = σ 66 := g2.1 66 (by decide) (by decide) (by decide)
            obtain ⟨σ2, r', m1, m2, m3, m4, m5⟩ := m_rep (zp s1 65 3 0) 6 (nI p) 2 (kk := 2) (r := 0) (f := fun r8 σ9 => f_X9_giveBox_71 (zp σ9 65 3 r8) (nI s2) (nI p)) (fun τ' _ => by rw [f_X9_giveBox_71, zp_e, if_neg (by decide)])
            refine ⟨σ2, r', ?_, m2, fun q q1 q2 q3 q4 => by rw [m3 q q1 q2 q3 q4, zp_n _ _ _ q1], fun j j1 j2 => by rw [m4 j j1 j2, zp_o _ _ j1], m5⟩
            rw [md _ e66, f_X9_giveBox_28, zp_e, if_pos rfl]
            simp (disch := omega) only [zk587, nI_add, zg_in, zcl, zp_n, e66, hh.1]
            rw [p_has _ _ (show s < 32 by omega), zb_s, hb, if_pos (show bI false = 0 from rfl)]
            exact m1
      · refine zokq_e 0 1 R ⟨σ, 0, ?_, zQx_refl σ⟩ (fun _ => rfl) (by decide) (fun τ hv => ⟨zp τ 65 3 1, 0, ?_, zp_e _ _ _ _, zMx_3 _ _⟩)
        · rw [f_X8_giveBox, c_sub_in σ hs, zx_0, c_sub_in σ hs2, zx_0, c_box_out x1 hw]; rfl
        · have e := hv 66 (by decide) (by decide)
          rw [f_X9_giveBox, m_sub_in _ hs, zb_s, if_neg (by decide), m_sub_in _ hs2, zb_s, if_neg (by decide), m_box_out (by rw [e]; exact x2) hnx hw, zb_s, if_pos rfl, o28]
    · refine zokq_e 0 1 R ⟨σ, 0, ?_, zQx_refl σ⟩ (fun _ => rfl) (by decide) (fun τ hv => ⟨zp τ 65 3 1, 0, ?_, zp_e _ _ _ _, zMx_3 _ _⟩)
      · rw [f_X8_giveBox, c_sub_in σ hs, zx_0, c_sub_out σ ho2]; rfl
      · rw [f_X9_giveBox, m_sub_in _ hs, zb_s, if_neg (by decide), m_sub_out _ ho2, zb_s, if_pos rfl, o28]
  · refine zokq_e 0 1 R ⟨σ, 0, ?_, zQx_refl σ⟩ (fun _ => rfl) (by decide) (fun τ hv => ⟨zp τ 65 3 1, 0, ?_, zp_e _ _ _ _, zMx_3 _ _⟩)
    · rw [f_X8_giveBox, c_sub_out σ ho]; rfl
    · rw [f_X9_giveBox, m_sub_out _ ho, zb_s, if_pos rfl, o28]
theorem k_unseal (R : RA σ K) (a b : Int32) : zok (f_L_unseal_0_75 σ a b) (fun τ => f_X9_unseal τ a b) (K + 1) := by
  obtain ⟨n, hS⟩ := R.1
  have hS0 := hS
  obtain ⟨hn, ⟨hc, hm⟩, ht, hbx, hjn, hob, htm, hex⟩ := hS
  have hbx0 := hbx
  obtain ⟨np, nx, hnp, hnx, ⟨p1, p2⟩, ⟨x1, x2⟩, hp, hx⟩ := hbx
  have o21 : ∀ τ : zs, f_X9_unseal_21 τ a b 1 = some (0, zp τ 65 3 1) := fun τ => by rw [f_X9_unseal_21, zp_e, if_neg (by decide), f_X9_unseal_102, zp_e, if_neg (by decide)]
  rcases zcase a (n := 6) (by omega) with ⟨s, hs, rfl⟩ | ho
  · rcases zcase b (n := nx) (by omega) with ⟨x, h, rfl⟩ | hw
    · obtain ⟨⟨y1, y2⟩, ⟨y3, y4⟩, y5, y6⟩ := hx x h
      obtain ⟨pr, hpr, -, epr⟩ := y2
      obtain ⟨t, htn, -, et⟩ := y4
      have hpp := (hp pr hpr).2
      obtain ⟨s1, g1, g2⟩ := p_holdsBox (σ := σ) hs (show x < 12 by omega)
      have md : ∀ τ : zs, τ 66 = σ 66 → f_X9_unseal τ (nI s) (nI x) = f_X9_unseal_21 τ (nI s) (nI x) 0 := by
        intro τ e
        rw [f_X9_unseal, m_sub_in _ hs, zb_s, if_neg (by decide), m_box_in (by rw [e]; exact x2) hnx h, zb_s, if_neg (by decide)]
      cases hb : zbit (σ 19 x) s with
      | true =>
        rw [hb] at g2 g1
        rw [if_pos rfl] at g2
        subst g2
        obtain ⟨s2, g3, g4⟩ := p_holdsPart (σ := s1) hs (show pr < 4 by omega) (1 : Int32)
        rw [if_neg (show ¬ (1 : Int32) = 0 by decide)] at g3 g4
        cases hb2 : zbit (s1 16 pr) s with
        | true =>
          rw [hb2] at g3 g4
          rw [if_pos rfl] at g4
          subst g4
          have hh := RT_hold (ht t htn)
          refine zok_0 (r := nI t) (σ1 := zp s2 6 t (s2 6 t ||| (1 : Int32) <<< (nI s &&& 31))) (σ2 := zp (zp (zp (zp (zp s2 6 t (s2 6 t ||| (1 : Int32) <<< (nI s &&& 31))) 75 0 (nI t)) 65 3 0) 65 3 0) 66 (107 + t) (s2 6 t ||| (1 : Int32) <<< (nI s &&& 31))) ?_ ?_ ?_ ?_ ?_
          · rw [f_X8_unseal, c_sub_in s2 hs, zx_0, c_box_in x1 hnx h, zx_0, g1, zb_s, if_neg (by decide)]
            simp (disch := omega) only [zg_in, zcl, epr]
            rw [g3, zb_s, if_neg (by decide), f_X8_unseal_44, f_X8_needPermission, if_neg (by decide), zx_0]
            simp (disch := omega) only [zg_in, zcl, et]
          · rw [md _ (by rw [zp_n _ _ _ (by decide), zp_n _ _ _ (by decide)]), f_X9_unseal_21, zp_e, if_pos rfl]
            simp (disch := omega) only [zk587, zk563, zk559, nI_add, zg_in, zcl, zp_n, y5, y1, epr, hpp.1]
            rw [p_has _ _ (show s < 32 by omega), zb_s, hb, if_neg (by decide)]
            simp (disch := omega) only [zp_n, hpp.1]
            rw [p_has _ _ (show s < 32 by omega), zb_s, hb2, if_neg (by decide), f_X9_unseal_102]
            simp (disch := omega) only [zp_e, ↓reduceIte, zk575, zk107, nI_add, zg_in, zcl, zp_n, zp_o, y3, et, hh.1]
          · rw [zp_n _ _ _ (by decide), zp_e]
          · rw [zp_n _ _ _ (by decide), zp_n _ _ _ (by decide), zp_n _ _ _ (by decide)]
          · refine RA_new (n := n) R ?_ (fun q hq => ?_) (fun j hj => ?_)
            · refine RS_hold (t := t) (v := s2 6 t ||| (1 : Int32) <<< (nI s &&& 31)) hS0 (fun q hq => ?_) (fun j => ?_) (fun j _ => ?_) (zor_e hh.2 hs) htn
              · rw [zp_n _ _ _ (by omega), zp_n _ _ _ (by omega), zp_n _ _ _ (by omega), zp_n _ _ _ (by omega), zp_n _ _ _ (by omega)]
              · simp [zp_rd]
              · simp [zp_rd]
            · rw [zp_n _ _ _ (by omega), zp_n _ _ _ (by omega), zp_n _ _ _ (by omega), zp_n _ _ _ (by omega), zp_n _ _ _ (by omega)]
            · rw [zp_n _ _ _ (by decide), zp_o _ _ (by omega), zp_o _ _ (by omega), zp_n _ _ _ (by decide), zp_n _ _ _ (by decide)]
        | false =>
          rw [hb2] at g3 g4
          rw [if_neg (by decide)] at g4
          refine zok_rep 3 2 R (L := [(5, nI pr)]) (by simp) (σ1 := s2) (r := 0) ?_ (zFa_3 g4.1) g4.2 (fun _ => rfl) (by decide) ?_
          · rw [f_X8_unseal, c_sub_in s1 hs, zx_0, c_box_in x1 hnx h, zx_0, g1, zb_s, if_neg (by decide)]
            simp (disch := omega) only [zg_in, zcl, epr]
            rw [g3, zb_s, if_pos (show bI false = 0 from rfl), f_X8_unseal_44, f_X8_needPermission, if_pos rfl]; rfl
          · have e66 : s2 66 = s1 66 := g4.1 66 (by decide) (by decide) (by decide)
            obtain ⟨σ2, r', m1, m2, m3, m4, m5⟩ := m_rep (zp s2 65 3 0) 5 (nI pr) 2 (kk := 2) (r := 0) (f := fun r8 σ9 => f_X9_unseal_102 (zp σ9 65 3 r8) (nI s) (nI x)) (fun τ' _ => by rw [f_X9_unseal_102, zp_e, if_neg (by decide)])
            refine ⟨σ2, r', ?_, m2, fun q q1 q2 q3 q4 => by rw [m3 q q1 q2 q3 q4, zp_n _ _ _ q1], fun j j1 j2 => by rw [m4 j j1 j2, zp_o _ _ j1], m5⟩
            rw [md _ e66, f_X9_unseal_21, zp_e, if_pos rfl]
            simp (disch := omega) only [zk587, zk563, zk559, nI_add, zg_in, zcl, zp_n, e66, y5, y1, epr, hpp.1]
            rw [p_has _ _ (show s < 32 by omega), zb_s, hb, if_neg (by decide)]
            simp (disch := omega) only [zp_n, e66, hpp.1]
            rw [p_has _ _ (show s < 32 by omega), zb_s, hb2, if_pos (show bI false = 0 from rfl)]
            exact m1
      | false =>
        rw [hb] at g2 g1
        rw [if_neg (by decide)] at g2
        refine zok_rep 3 2 R (L := [(6, nI x)]) (by simp) (σ1 := s1) (r := 0) ?_ (zFa_3 g2.1) g2.2 (fun _ => rfl) (by decide) ?_
        · rw [f_X8_unseal, c_sub_in σ hs, zx_0, c_box_in x1 hnx h, zx_0, g1, zb_s, if_pos (show bI false = 0 from rfl), f_X8_unseal_44, f_X8_needPermission, if_pos rfl]; rfl
        · have e66 : s1 66 = σ 66 := g2.1 66 (by decide) (by decide) (by decide)
          obtain ⟨σ2, r', m1, m2, m3, m4, m5⟩ := m_rep (zp s1 65 3 0) 6 (nI x) 2 (kk := 2) (r := 0) (f := fun r8 σ9 => f_X9_unseal_102 (zp σ9 65 3 r8) (nI s) (nI x)) (fun τ' _ => by rw [f_X9_unseal_102, zp_e, if_neg (by decide)])
          refine ⟨σ2, r', ?_, m2, fun q q1 q2 q3 q4 => by rw [m3 q q1 q2 q3 q4, zp_n _ _ _ q1], fun j j1 j2 => by rw [m4 j j1 j2, zp_o _ _ j1], m5⟩
          rw [md _ e66, f_X9_unseal_21, zp_e, if_pos rfl]
          simp (disch := omega) only [zk587, zk563, nI_add, zg_in, zcl, zp_n, e66, y5]
          rw [p_has _ _ (show s < 32 by omega), zb_s, hb, if_pos (show bI false = 0 from rfl)]
          exact m1
    · refine zokq_e 0 1 R ⟨σ, 0, ?_, zQx_refl σ⟩ (fun _ => rfl) (by decide) (fun τ hv => ⟨zp τ 65 3 1, 0, ?_, zp_e _ _ _ _, zMx_3 _ _⟩)
      · rw [f_X8_unseal, c_sub_in σ hs, zx_0, c_box_out x1 hw]; rfl
      · have e := hv 66 (by decide) (by decide)
        rw [f_X9_unseal, m_sub_in _ hs, zb_s, if_neg (by decide), m_box_out (by rw [e]; exact x2) hnx hw, zb_s, if_pos rfl, o21]
  · refine zokq_e 0 1 R ⟨σ, 0, ?_, zQx_refl σ⟩ (fun _ => rfl) (by decide) (fun τ hv => ⟨zp τ 65 3 1, 0, ?_, zp_e _ _ _ _, zMx_3 _ _⟩)
    · rw [f_X8_unseal, c_sub_out σ ho]; rfl
    · rw [f_X9_unseal, m_sub_out _ ho, zb_s, if_pos rfl, o21]
end PN
