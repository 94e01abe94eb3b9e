/-! the calls that change holders and boxes -/
theorem zsh : ∀ s, s < 6 → (1 : Int32) <<< (nI s &&& 31) = nI (2 ^ s) ∧ 2 ^ s < 64 := by decide +kernel
theorem zor6 : ∀ h, h < 64 → ∀ s, s < 6 → nI h ||| nI (2 ^ s) = nI (h ||| 2 ^ s) ∧ h ||| 2 ^ s < 64 := by decide +kernel
theorem zan6 : ∀ h, h < 64 → ∀ s, s < 6 → nI h &&& (nI (2 ^ s) ^^^ (-1 : Int32)) = nI (h &&& (63 ^^^ 2 ^ s)) ∧ h &&& (63 ^^^ 2 ^ s) < 64 := by decide +kernel
theorem zr_of {x : Int32} {B : Nat} (h : zr x B) : ∃ v, v < B ∧ x = nI v := by
  obtain ⟨v, h1, h2, h3⟩ := h; exact ⟨v, h1, h3⟩
theorem zr_or {x : Int32} {s : Nat} (h : zr x 64) (hs : s < 6) : ∃ v, v < 64 ∧ x ||| (1 : Int32) <<< (nI s &&& 31) = nI v := by
  obtain ⟨v, h1, h2, rfl⟩ := h
  rw [(zsh s hs).1]
  exact ⟨_, (zor6 v h1 s hs).2, (zor6 v h1 s hs).1⟩
theorem zr_an {x : Int32} {s : Nat} (h : zr x 64) (hs : s < 6) : ∃ v, v < 64 ∧ x &&& (((1 : Int32) <<< (nI s &&& 31)) ^^^ (-1 : Int32)) = nI v := by
  obtain ⟨v, h1, h2, rfl⟩ := h
  rw [(zsh s hs).1]
  exact ⟨_, (zan6 v h1 s hs).2, (zan6 v h1 s hs).1⟩
/-- a denial with its report, and nothing else -/
theorem zok_rep {σ : zs} {X : Option zO} {G : Int32 → zs → Option (Int32 × zs)} {g : zs → Option (Int32 × zs)} {H : Nat → zs → Option (Int32 × zs)} {K : Nat} (e : Nat) (k : Int32) (R : RA σ K) {σ1 : zs} {r : Int32} {L : zL} (hL : L.length ≤ 3) (hX : X = some (e + 1, r, σ1)) (h1 : zFa σ σ1) (h2 : zRepC σ1 L) (hH : ∀ τ : zs, H (e + 1) τ = some (k, τ)) (hk : k ≠ 0)
    (hg : ∃ (σ2 : zs) (r' : Int32), g σ1 = some (r', σ2) ∧ σ2 65 3 = k ∧ (∀ p, p ≠ 65 → p ≠ 69 → p ≠ 70 → p ≠ 71 → σ2 p = σ1 p) ∧ (∀ j, j ≠ 3 → j ≠ 10 → σ2 65 j = σ1 65 j) ∧ zRepM σ2 L) : zok (zc X G H) g (K + 1) := by
  obtain ⟨σ2, r', e', h3, f1, f2, f3⟩ := hg
  obtain ⟨n, hS⟩ := R.1
  have f : ∀ p, p ≠ 49 → p ≠ 50 → p ≠ 51 → p ≠ 62 → p ≠ 65 → p ≠ 69 → p ≠ 70 → p ≠ 71 → σ2 p = σ p := fun p p1 p2 p3 p4 p5 p6 p7 p8 => by rw [f1 p p5 p6 p7 p8, h1 p p1 p2 p3 p4]
  refine zok_e hX (hH σ1) hk e' h3 (RA_rep (n := n) R ?_ (fun p hp => f p (by omega) (by omega) (by omega) (by omega) (by omega) (by omega) (by omega) (by omega)) (fun j hj => by rw [f2 j (by omega) (by omega), h1 65 (by decide) (by decide) (by decide) (by decide)]) (RRp_of hL (zRepC_cong (fun p hp => f1 p (by omega) (by omega) (by omega) (by omega)) h2) f3))
  rw [f 66 (by decide) (by decide) (by decide) (by decide) (by decide) (by decide) (by decide) (by decide)]
  exact RS_mono (Nat.le_succ K) (RS_cong (fun p hp => f p (by omega) (by omega) (by omega) (by omega) (by omega) (by omega) (by omega) (by omega)) hS)
/-- the reference's report, and the number of its exception -/
theorem m_rep (τ : zs) (a b k : Int32) {f : Int32 → zs → Option (Int32 × zs)} {kk r : Int32} (hf : ∀ τ' : zs, zH3 τ τ' → f k τ' = some (r, zp τ' 65 3 kk)) : ∃ (σ2 : zs) (r' : Int32), zb (f_X9_reports τ a b k) f = some (r', σ2) ∧ σ2 65 3 = kk ∧ (∀ p, p ≠ 65 → p ≠ 69 → p ≠ 70 → p ≠ 71 → σ2 p = τ p) ∧ (∀ j, j ≠ 3 → j ≠ 10 → σ2 65 j = τ 65 j) ∧ zRepM σ2 [(a, b)] := by
  obtain ⟨s1, g1, g2, g3⟩ := m_reports τ a b k
  refine ⟨zp s1 65 3 kk, r, by rw [g1, zb_s, hf s1 g2], zp_e _ _ _ _, fun p p1 _ p3 p4 => by rw [zp_n _ _ _ p1, g2.1 p p1 p3 p4], fun j j1 j2 => by rw [zp_o _ _ j1, g2.2 j j2], ?_⟩
  exact zRepM_cong (fun p hp => zp_n _ _ _ (by omega)) (zp_o _ _ (by decide)) g3
theorem p_holdsPart {σ : zs} {s p : Nat} (hs : s < 6) (hp : p < 4) (u : Int32) : ∃ σ' : zs, f_X8_holdsPart σ (nI s) (nI p) u = some (bI (zbit (σ (if u = 0 then 15 else 16) p) s), σ') ∧ (if zbit (σ (if u = 0 then 15 else 16) p) s then σ' = σ else (zF3 σ σ' ∧ zRepC σ' [(5, nI p)])) := by
  rw [f_X8_holdsPart]
  obtain ⟨s1, g1, g2, g3⟩ := p_begin σ 5 (nI p)
  by_cases hu : u = 0
  · rw [if_pos hu, if_pos hu, zcl (by omega), zg_in _ (by omega) (by omega), p_hasBit _ _ (show s < 32 by omega), zb_s, bI_0]
    cases zbit (σ 15 p) s with
    | true => exact ⟨σ, rfl, rfl⟩
    | false => rw [if_neg (by decide), g1, zb_s]; exact ⟨s1, rfl, g2, g3⟩
  · rw [if_neg hu, if_neg hu, zcl (by omega), zg_in _ (by omega) (by omega), p_hasBit _ _ (show s < 32 by omega), zb_s, bI_0]
    cases zbit (σ 16 p) s with
    | true => exact ⟨σ, rfl, rfl⟩
    | false => rw [if_neg (by decide), g1, zb_s]; exact ⟨s1, rfl, g2, g3⟩
theorem p_holdsBox {σ : zs} {s b : Nat} (hs : s < 6) (hb : b < 12) : ∃ σ' : zs, f_X8_holdsBox σ (nI s) (nI b) = some (bI (zbit (σ 19 b) s), σ') ∧ (if zbit (σ 19 b) s then σ' = σ else (zF3 σ σ' ∧ zRepC σ' [(6, nI b)])) := by
  rw [f_X8_holdsBox, zcl (by omega), zg_in _ (by omega) (by omega), p_hasBit _ _ (show s < 32 by omega), zb_s, bI_0]
  obtain ⟨s1, g1, g2, g3⟩ := p_begin σ 6 (nI b)
  cases zbit (σ 19 b) s with
  | true => exact ⟨σ, rfl, rfl⟩
  | false => rw [if_neg (by decide), g1, zb_s]; exact ⟨s1, rfl, g2, g3⟩
/-- one token's holders anew -/
theorem RS_hold {c c' : zs} {m m' : Nat → Int32} {K n t : Nat} {v : Int32} (R : RS c m K n) (hc : ∀ p, (1 ≤ p ∧ p ≤ 24 ∧ p ≠ 13 ∧ p ≠ 6) → c' p = c p) (h6 : ∀ j, c' 6 j = if j = t then v else c 6 j) (hm : ∀ j, j < 628 → m' j = if j = 107 + t then v else m j) (hv : zr v 64) (ht : t < n) : RS c' m' (K + 1) n := by
  have hn := R.1
  refine RS_tok (Nat.le_succ K) R (fun p hp => hc p (by omega)) (fun j hj => by rw [hm j (by omega), if_neg (by omega)]) (fun u hu => ?_)
  have T := RTk_mono (Nat.le_succ K) (R.2.2.1 u hu)
  rw [hm (107 + u) (by omega), hm (163 + u) (by omega), hm (135 + u) (by omega), if_neg (show ¬ 163 + u = 107 + t by omega), if_neg (show ¬ 135 + u = 107 + t by omega), h6, hc 7 (by decide), hc 8 (by decide)]
  refine ⟨?_, RT_use T, RT_rev T⟩
  by_cases e : u = t
  · rw [if_pos (by omega), if_pos e]; exact ⟨rfl, hv⟩
  · rw [if_neg (by omega), if_neg e]; exact RT_hold T
section PM
variable {σ : zs} {K : Nat}
theorem k_drop (R : RA σ K) (a b : Int32) : zok (f_L_drop_0_75 σ a b) (fun τ => f_X9_drop τ a b) (K + 1) := by
  obtain ⟨n, hS⟩ := R.1
  obtain ⟨hn, ⟨hc, hm⟩, ht, hbx, hjn, hob, htm, hex⟩ := hS
  rcases zcase a (n := 6) (by omega) with ⟨s, hs, rfl⟩ | ho
  · rcases zcase b (n := n) (by omega) with ⟨t, h, rfl⟩ | hw
    · have T := ht t h
      have hh := RT_hold T
      cases hb : zbit (σ 6 t) s with
      | true =>
        obtain ⟨v, hv, ev⟩ := zr_an hh.2 hs
        refine zok_0 (r := nI (zpop 32 v)) (σ1 := zp σ 6 t (nI v)) (σ2 := zp (zp (zp (zp σ 6 t (nI v)) 75 0 (nI (zpop 32 v))) 65 3 0) 66 (107 + t) (nI v)) ?_ ?_ ?_ ?_ ?_
        · rw [f_X8_drop, c_sub_in σ hs, zx_0, c_tok_in hc hn h, zx_0]
          simp (disch := omega) only [zg_in, zcl]
          rw [p_hasBit _ _ (show s < 32 by omega), zb_s, hb, f_X8_needElement, if_neg (by decide), zx_0, ev, zp_e, p_bits _ hv, zb_s]
        · rw [f_X9_drop, m_sub_in _ hs, zb_s, if_neg (by decide), m_tok_in (by rw [zp_n _ _ _ (by decide), zp_n _ _ _ (by decide)]; exact hm) hn h, zb_s, if_neg (by decide)]
          simp (disch := omega) only [zk107, nI_add, zg_in, zcl, zp_n, hh.1]
          rw [p_has _ _ (show s < 32 by omega), zb_s, hb, if_neg (by decide), f_X9_drop_41]
          simp (disch := omega) only [zp_e, ↓reduceIte, zk107, nI_add, zg_in, zcl, zp_n, hh.1, ev]
          rw [m_bits _ hv, zb_s]
        · rw [zp_n _ _ _ (by decide), zp_e]
        · rw [zp_n _ _ _ (by decide), zp_n _ _ _ (by decide)]
        · refine RA_new (n := n) R ?_ (fun p hp => ?_) (fun j hj => ?_)
          · refine RS_hold (t := t) (v := nI v) (R := ⟨hn, ⟨hc, hm⟩, ht, hbx, hjn, hob, htm, hex⟩) (fun p hp => ?_) (fun j => ?_) (fun j _ => ?_) (zr_i hv (by omega)) h
            · rw [zp_n _ _ _ (by omega), zp_n _ _ _ (by omega), zp_n _ _ _ (by omega), zp_n _ _ _ (by omega)]
            · simp [zp_rd]
            · simp [zp_rd]
          · rw [zp_n _ _ _ (by omega), zp_n _ _ _ (by omega), zp_n _ _ _ (by omega), zp_n _ _ _ (by omega)]
          · rw [zp_n _ _ _ (by decide), zp_o _ _ (by omega), zp_n _ _ _ (by decide), zp_n _ _ _ (by decide)]
      | false =>
        refine zokq_e 4 2 R ⟨σ, 0, ?_, zQx_refl σ⟩ (fun _ => rfl) (by decide) (fun τ hv => ⟨zp τ 65 3 2, 0, ?_, zp_e _ _ _ _, zMx_3 _ _⟩)
        · rw [f_X8_drop, c_sub_in σ hs, zx_0, c_tok_in hc hn h, zx_0]
          simp (disch := omega) only [zg_in, zcl]
          rw [p_hasBit _ _ (show s < 32 by omega), zb_s, hb, f_X8_needElement, if_pos (show bI false = 0 from rfl)]; rfl
        · have e := hv 66 (by decide) (by decide)
          rw [f_X9_drop, m_sub_in _ hs, zb_s, if_neg (by decide), m_tok_in (by rw [e]; exact hm) hn h, zb_s, if_neg (by decide)]
          simp (disch := omega) only [zk107, nI_add, zg_in, zcl, e, hh.1]
          rw [p_has _ _ (show s < 32 by omega), zb_s, hb, if_pos (show bI false = 0 from rfl), f_X9_drop_41, zp_e, if_neg (by decide)]
    · refine zokq_e 0 1 R ⟨σ, 0, ?_, zQx_refl σ⟩ (fun _ => rfl) (by decide) (fun τ hv => ⟨zp τ 65 3 1, 0, ?_, zp_e _ _ _ _, zMx_3 _ _⟩)
      · rw [f_X8_drop, c_sub_in σ hs, zx_0, c_tok_out hc hw]; rfl
      · have e := hv 66 (by decide) (by decide)
        rw [f_X9_drop, m_sub_in _ hs, zb_s, if_neg (by decide), m_tok_out (by rw [e]; exact hm) hn hw, zb_s, if_pos rfl, f_X9_drop_41, zp_e, if_neg (by decide)]
  · refine zokq_e 0 1 R ⟨σ, 0, ?_, zQx_refl σ⟩ (fun _ => rfl) (by decide) (fun τ hv => ⟨zp τ 65 3 1, 0, ?_, zp_e _ _ _ _, zMx_3 _ _⟩)
    · rw [f_X8_drop, c_sub_out σ ho]; rfl
    · rw [f_X9_drop, m_sub_out _ ho, zb_s, if_pos rfl, f_X9_drop_41, zp_e, if_neg (by decide)]
theorem k_give (R : RA σ K) (a b c : Int32) : zok (f_L_give_0_75 σ a b c) (fun τ => f_X9_give τ a b c) (K + 1) := by
  obtain ⟨n, hS⟩ := R.1
  obtain ⟨hn, ⟨hc, hm⟩, ht, hbx, hjn, hob, htm, hex⟩ := hS
  have o58 : ∀ τ : zs, f_X9_give_58 (zp τ 65 3 1) b c = some (0, zp τ 65 3 1) := fun τ => by rw [f_X9_give_58, zp_e, if_neg (by decide)]
  rcases zcase a (n := 6) (by omega) with ⟨s, hs, rfl⟩ | ho
  · rcases zcase b (n := 6) (by omega) with ⟨s2, hs2, rfl⟩ | ho2
    · rcases zcase c (n := n) (by omega) with ⟨t, h, rfl⟩ | hw
      · have T := ht t h
        have hh := RT_hold T
        obtain ⟨σ1, g1, g2, g3⟩ := p_isAllowed hn ht hs h 4 0
        obtain ⟨v, hv, ev⟩ := zr_or hh.2 hs2
        have cl : f_X8_give σ (nI s) (nI s2) (nI t) = zx (f_X8_needPermission σ1 (bI (zIs (zask σ s t 4 0)))) (fun r14 σ15 => zg (zin (nI t) 28) (zg (zin (nI t) 28) (zg (zin (nI t) 28) (zb (f_J6_bitCount_0f7a4 (zp σ15 6 (nI t).toNatClampNeg ((σ15 6 (nI t).toNatClampNeg) ||| ((1 : Int32) <<< (nI s2 &&& 31)))) ((zp σ15 6 (nI t).toNatClampNeg ((σ15 6 (nI t).toNatClampNeg) ||| ((1 : Int32) <<< (nI s2 &&& 31)))) 6 (nI t).toNatClampNeg)) (fun r17 σ18 => some (0, r17, σ18)))))) := by
          rw [f_X8_give, c_sub_in σ hs, zx_0, c_sub_in σ hs2, zx_0, c_tok_in hc hn h, zx_0, g1, zb_s]
        have md : ∀ τ : zs, τ 66 = σ 66 → f_X9_give τ (nI s) (nI s2) (nI t) = zb (f_X9_allows (zp τ 65 3 0) (nI s) (nI t) 4 0) (fun r8 σ9 => if r8 = 0 then (f_X9_give_58 (zp σ9 65 3 (2 : Int32)) (nI s2) (nI t)) else (f_X9_give_58 (zp σ9 65 3 (0 : Int32)) (nI s2) (nI t))) := by
          intro τ e
          rw [f_X9_give, m_sub_in _ hs, zb_s, if_neg (by decide), m_sub_in _ hs2, zb_s, if_neg (by decide), m_tok_in (by rw [e]; exact hm) hn h, zb_s, if_neg (by decide), f_X9_give_28, zp_e, if_pos rfl]
        have hal : ∀ τ : zs, τ 66 = σ 66 → zQalw τ (zask σ s t 4 0) (f_X9_allows τ (nI s) (nI t) 4 0) := fun τ e => m_allows hn (by rw [e]; exact ht) (by rw [e]; exact htm.1) hs h 4 0
        cases hz : zask σ s t 4 0 with
        | none =>
          rw [hz] at cl g3
          have e6 : σ1 6 = σ 6 := g2 6 (by decide) (by decide) (by decide) (by decide)
          obtain ⟨τ', k1, k2, k3⟩ := hal (zp (zp (zp σ1 6 t (nI v)) 75 0 (nI (zpop 32 v))) 65 3 0) (by rw [zp_n _ _ _ (by decide), zp_n _ _ _ (by decide), zp_n _ _ _ (by decide), g2 66 (by decide) (by decide) (by decide) (by decide)])
          rw [hz] at k1 k3
          have e66 : τ' 66 = σ 66 := by rw [k2.1 66 (by decide) (by decide) (by decide) (by decide), zp_n _ _ _ (by decide), zp_n _ _ _ (by decide), zp_n _ _ _ (by decide), g2 66 (by decide) (by decide) (by decide) (by decide)]
          have fr : ∀ p, p ≠ 6 → p ≠ 62 → p ≠ 65 → p ≠ 69 → p ≠ 75 → τ' p = σ p := by
            intro p p1 p2 p3 p4 p5
            by_cases q : p = 70 ∨ p = 71
            · rw [k3.1 p q, zp_n _ _ _ p3, zp_n _ _ _ p5, zp_n _ _ _ p1, g2 p (by omega) (by omega) (by omega) p2]
            · rw [k2.1 p p3 p4 (by omega) (by omega), zp_n _ _ _ p3, zp_n _ _ _ p5, zp_n _ _ _ p1]
              by_cases w : p = 49 ∨ p = 50 ∨ p = 51
              · exact g3 p w
              · exact g2 p (by omega) (by omega) (by omega) p2
          refine zok_0 (r := nI (zpop 32 v)) (σ1 := zp σ1 6 t (nI v)) (σ2 := zp (zp τ' 65 3 0) 66 (107 + t) (nI v)) ?_ ?_ ?_ ?_ ?_
          · rw [cl, f_X8_needPermission, if_neg (by decide), zx_0]
            simp (disch := omega) only [zg_in, zcl, e6, ev, zp_e]
            rw [p_bits _ hv, zb_s]
          · rw [md _ (by rw [zp_n _ _ _ (by decide), zp_n _ _ _ (by decide), g2 66 (by decide) (by decide) (by decide) (by decide)]), k1, zb_s, if_neg (by decide), f_X9_give_58, zp_e, if_pos rfl]
            simp (disch := omega) only [zk107, nI_add, zg_in, zcl, zp_n, e66, hh.1, ev, zp_e]
            rw [m_bits _ hv, zb_s]
          · rw [zp_n _ _ _ (by decide), zp_e]
          · rw [zp_n _ _ _ (by decide), zp_n _ _ _ (by decide), k2.1 75 (by decide) (by decide) (by decide) (by decide), zp_n _ _ _ (by decide)]
          · refine RA_new (n := n) R ?_ (fun p hp => ?_) (fun j hj => ?_)
            · refine RS_hold (t := t) (v := nI v) (R := ⟨hn, ⟨hc, hm⟩, ht, hbx, hjn, hob, htm, hex⟩) (fun p hp => ?_) (fun j => ?_) (fun j _ => ?_) (zr_i hv (by omega)) h
              · rw [zp_n _ _ _ (by omega), zp_n _ _ _ (by omega), fr p (by omega) (by omega) (by omega) (by omega) (by omega)]
              · rw [zp_n _ _ _ (by decide), zp_n _ _ _ (by decide), k2.1 6 (by decide) (by decide) (by decide) (by decide), zp_n _ _ _ (by decide), zp_n _ _ _ (by decide), zp_rd, e6]
                simp
              · rw [zp_rd, zp_n _ _ _ (by decide), e66]; simp
            · rw [zp_n _ _ _ (by omega), zp_n _ _ _ (by omega), fr p (by omega) (by omega) (by omega) (by omega) (by omega)]
            · rw [zp_n _ _ _ (by decide), zp_o _ _ (by omega)]
              by_cases q : j = 10
              · subst q
                rw [k3.2, zp_o _ _ (by decide), zp_n _ _ _ (by decide), zp_n _ _ _ (by decide), g2 65 (by decide) (by decide) (by decide) (by decide)]
              · rw [k2.2 j q, zp_o _ _ (by omega), zp_n _ _ _ (by decide), zp_n _ _ _ (by decide), g2 65 (by decide) (by decide) (by decide) (by decide)]
        | some L =>
          rw [hz] at cl g3
          obtain ⟨τ', k1, k2, k3⟩ := hal (zp σ1 65 3 0) (by rw [zp_n _ _ _ (by decide), g2 66 (by decide) (by decide) (by decide) (by decide)])
          rw [hz] at k1 k3
          refine zok_rep (L := L) 3 2 R g3.2 (σ1 := σ1) (r := 0) ?_ g2 g3.1 (fun _ => rfl) (by decide) ⟨zp τ' 65 3 2, 0, ?_, zp_e _ _ _ _, fun p p1 p2 p3 p4 => ?_, fun j j1 j2 => ?_, ?_⟩
          · rw [cl, f_X8_needPermission, if_pos (show bI (zIs (some L)) = 0 from rfl)]; rfl
          · rw [md _ (g2 66 (by decide) (by decide) (by decide) (by decide)), k1, zb_s, if_pos (show bI (zIs (some L)) = 0 from rfl), f_X9_give_58, zp_e, if_neg (by decide)]
          · rw [zp_n _ _ _ p1, k2.1 p p1 p2 p3 p4, zp_n _ _ _ p1]
          · rw [zp_o _ _ j1, k2.2 j j2, zp_o _ _ j1]
          · exact zRepM_cong (fun p hp => zp_n _ _ _ (by omega)) (zp_o _ _ (by decide)) k3.1
      · refine zokq_e 0 1 R ⟨σ, 0, ?_, zQx_refl σ⟩ (fun _ => rfl) (by decide) (fun τ hv => ⟨zp τ 65 3 1, 0, ?_, zp_e _ _ _ _, zMx_3 _ _⟩)
        · rw [f_X8_give, c_sub_in σ hs, zx_0, c_sub_in σ hs2, zx_0, c_tok_out hc hw]; rfl
        · have e := hv 66 (by decide) (by decide)
          rw [f_X9_give, m_sub_in _ hs, zb_s, if_neg (by decide), m_sub_in _ hs2, zb_s, if_neg (by decide), m_tok_out (by rw [e]; exact hm) hn hw, zb_s, if_pos rfl, f_X9_give_28, zp_e, if_neg (by decide), o58]
    · refine zokq_e 0 1 R ⟨σ, 0, ?_, zQx_refl σ⟩ (fun _ => rfl) (by decide) (fun τ hv => ⟨zp τ 65 3 1, 0, ?_, zp_e _ _ _ _, zMx_3 _ _⟩)
      · rw [f_X8_give, c_sub_in σ hs, zx_0, c_sub_out σ ho2]; rfl
      · rw [f_X9_give, m_sub_in _ hs, zb_s, if_neg (by decide), m_sub_out _ ho2, zb_s, if_pos rfl, f_X9_give_28, zp_e, if_neg (by decide), o58]
  · refine zokq_e 0 1 R ⟨σ, 0, ?_, zQx_refl σ⟩ (fun _ => rfl) (by decide) (fun τ hv => ⟨zp τ 65 3 1, 0, ?_, zp_e _ _ _ _, zMx_3 _ _⟩)
    · rw [f_X8_give, c_sub_out σ ho]; rfl
    · rw [f_X9_give, m_sub_out _ ho, zb_s, if_pos rfl, f_X9_give_28, zp_e, if_neg (by decide), o58]
end PM
