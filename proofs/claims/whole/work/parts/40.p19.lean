/-! revoke -/
theorem bI_or (a b : Bool) : bI a ||| bI b = bI (a || b) := by cases a <;> cases b <;> decide
theorem zcnt_one {p q : Nat → Bool} {k0 : Nat} (hq : q k0 = true) (hp : p k0 = false) : ∀ {N : Nat}, k0 < N → (∀ k, k < N → k ≠ k0 → q k = p k) → zcnt q N = zcnt p N + 1
  | 0, h, _ => absurd h (by omega)
  | N + 1, h, hh => by
    by_cases e : k0 = N
    · subst e
      have e2 : zcnt q k0 = zcnt p k0 := zcnt_cong (fun i hi => hh i (by omega) (by omega))
      rw [zcnt, zcnt, hq, hp, e2]; simp
    · have ih := zcnt_one hq hp (N := N) (by omega) (fun k hk hk2 => hh k (by omega) hk2)
      have e3 := hh N (by omega) (Ne.symm e)
      rw [zcnt, zcnt, e3, ih]
      split <;> rfl
/-- where a token stands in a chain -/
theorem zch_at {c : zs} {m : Nat → Int32} {K n : Nat} (h : ∀ t, t < n → RTk c m K t) {u t k : Nat} (hu : u < n) (hk : k < zln c u) (e : zch c u k = t) : zln c t = k + 1 := by
  have := (zpre h u hu k hk).2.1
  rw [e] at this; exact this
theorem zbl_iff {c : zs} {m : Nat → Int32} {K n : Nat} (h : ∀ t, t < n → RTk c m K t) {u t : Nat} (hu : u < n) (ht : t < n) : zbl c u t = true ↔ (zln c t - 1 < zln c u ∧ zch c u (zln c t - 1) = t) := by
  have hl := (zln_eq (h t ht)).2.1
  unfold zbl
  rw [Bool.and_eq_true, decide_eq_true_eq, beq_iff_eq]
  constructor
  · rintro ⟨a, b⟩; exact ⟨by omega, b⟩
  · rintro ⟨a, b⟩; exact ⟨by omega, b⟩
section PS
variable {σ τ c : zs} {K n : Nat}
theorem m_rvup (hn : n ≤ 28) (h : ∀ t, t < n → RTk c (τ 66) K t) {s t : Nat} (hs : s < 6) (ht : t < n) : zlp4 f_X9_revoke_38 1000 τ (nI s) (nI t) 0 (nI t) = f_X9_revoke_38 (fun _ _ _ _ _ => none) τ (nI s) (nI t) (bI (zhc c s t)) (-1) := by
  obtain ⟨hl, hl1, hl7⟩ := zln_eq (h t ht)
  have z := zany_rev (fun k => zbit (c 6 (zch c t k)) s) (zln c t)
  have z2 : zhc c s t = zany (fun k => zbit (c 6 (zch c t (zln c t - 1 - k))) s) (zln c t) := z.symm
  rw [z2]
  have e0 := zup_0 (h t ht)
  refine Eq.trans (b := zlp4 f_X9_revoke_38 1000 τ (nI s) (nI t) (bI false) (zup c t 0)) (by rw [e0]; rfl) ?_
  refine zlr4 (zln c t) (fun _ => τ) (fun _ => nI s) (fun _ => nI t) (fun i => bI (zany (fun k => zbit (c 6 (zch c t (zln c t - 1 - k))) s) i)) (zup c t) (fun i hi rec => ?_) (fun rec => ?_) 1000 (by omega)
  · obtain ⟨l, e1, e2, e3, e4, e5⟩ := z_road hn h ht hi
    have hh := (RT_hold (h l e2)).1
    rw [e4, f_X9_revoke_38, if_neg (zlt0 (by omega))]
    simp (disch := omega) only [zk107, nI_add, zg_in, zcl, hh]
    rw [p_has _ _ (show s < 32 by omega), zb_s]
    simp (disch := omega) only [zk79, nI_add, zg_in, zcl, e5, bI_or]
    rw [e1]; rfl
  · rw [zup_end, f_X9_revoke_38, f_X9_revoke_38, if_pos (show (-1 : Int32) < 0 by decide), if_pos (show (-1 : Int32) < 0 by decide)]
/-- the tokens that a new revocation ends -/
theorem z_ends (hn : n ≤ 28) {m m' : Nat → Int32} (h : ∀ t, t < n → RTk c m K t) {t : Nat} (ht : t < n) (hr : c 8 t = -1) {v : Int32} (hv : v ≠ -1) {u : Nat} (hu : u < n) : (zbl c u t && decide (zcnt (fun k => (zp c 8 t v) 8 (zch c u k) != -1) (zln c u) = 1)) = (zbl c u t && !zed c u) := by
  cases hb : zbl c u t with
  | false => rfl
  | true =>
    obtain ⟨a, b⟩ := (zbl_iff h hu ht).mp hb
    have e : zcnt (fun k => (zp c 8 t v) 8 (zch c u k) != -1) (zln c u) = zcnt (fun k => c 8 (zch c u k) != -1) (zln c u) + 1 := by
      refine zcnt_one (k0 := zln c t - 1) ?_ ?_ a (fun k hk hk2 => ?_)
      · show ((zp c 8 t v) 8 (zch c u (zln c t - 1)) != -1) = true
        rw [b, zp_e]; simp [hv]
      · show (c 8 (zch c u (zln c t - 1)) != -1) = false
        rw [b, hr]; rfl
      · show ((zp c 8 t v) 8 (zch c u k) != -1) = (c 8 (zch c u k) != -1)
        rw [zp_o _ _ (fun e => hk2 (by have := zch_at h hu hk e; omega))]
    rw [e]
    have hz := zed_cnt (c := c) (t := u)
    cases hd : zed c u with
    | true =>
      have := hz.mp hd
      rw [decide_eq_false (by omega)]; rfl
    | false =>
      have : ¬ 0 < zcnt (fun k => c 8 (zch c u k) != -1) (zln c u) := fun x => by rw [hz.mpr x] at hd; cases hd
      rw [decide_eq_true (by omega)]; rfl
theorem m_rvcnt (hn : n ≤ 28) (hm : τ 66 1 = nI n) (h : ∀ t, t < n → RTk c (τ 66) K t) {t : Nat} (ht : t < n) : zlp3 f_X9_revoke_124 1000 τ (nI t) 0 0 = some (nI (zcnt (fun u => zbl c u t && decide (zcnt (fun k => c 8 (zch c u k) != -1) (zln c u) = 1)) n), τ) := by
  rw [zi0]
  refine zlr3 n (fun _ => τ) (fun _ => nI t) (fun i => nI (zcnt (fun u => zbl c u t && decide (zcnt (fun k => c 8 (zch c u k) != -1) (zln c u) = 1)) i)) nI (fun i hi rec => ?_) (fun rec => ?_) 1000 (by omega)
  · have hl7 := (zln_eq (h i hi)).2.2
    have hcl := zcnt_le (fun k => c 8 (zch c i k) != -1) (zln c i)
    rw [f_X9_revoke_124, zG1, zC1, hm]
    simp (disch := omega) only [znI_le]
    rw [if_neg (by omega), m_isBelow hn h hi ht, zb_s, bI_0, zcnt]
    cases hb : zbl c i t with
    | false => simp [f_X9_revoke_162, nI_1, nI_0]
    | true =>
      have e1 : (nI (zcnt (fun k => c 8 (zch c i k) != -1) (zln c i)) = (1 : Int32)) = (zcnt (fun k => c 8 (zch c i k) != -1) (zln c i) = 1) := znI_inj (by omega) (by decide)
      rw [if_pos rfl, m_revokedIn hn h hi, zb_s]
      by_cases w : zcnt (fun k => c 8 (zch c i k) != -1) (zln c i) = 1
      · rw [if_pos ((iff_of_eq e1).mpr w), f_X9_revoke_162, nI_1, nI_1]; simp [w]
      · rw [if_neg (fun x => w ((iff_of_eq e1).mp x)), f_X9_revoke_162, nI_1]; simp [w]
  · rw [f_X9_revoke_124, zG1, zC1, hm, if_pos (Int32.le_refl _)]
theorem k_revoke (R : RA σ K) (a b : Int32) : zok (f_L_revoke_0_75 σ a b) (fun τ => f_X9_revoke τ a b) (K + 1) := by
  obtain ⟨n, hS⟩ := R.1
  have hS0 := hS
  obtain ⟨hn, ⟨hc, hm⟩, ht, hbx, hjn, hob, htm, hex⟩ := hS
  have o21 : ∀ τ : zs, f_X9_revoke_21 τ a b 1 = some (0, zp τ 65 3 1) := fun τ => by rw [f_X9_revoke_21, zp_e, if_neg (by decide)]
  rcases zcase a (n := 6) (by omega) with ⟨s, hs, rfl⟩ | ho
  · rcases zcase b (n := n) (by omega) with ⟨t, htn, rfl⟩ | ho2
    · have hrev := RT_rev (ht t htn)
      have cl0 : f_X8_revoke σ (nI s) (nI t) = if bI (zhc σ s t) = 0 then (zb (f_X5_begin σ (1 : Int32) (nI t)) (fun r23 σ24 => f_X8_revoke_35 σ24 (nI s) (nI t) (bI (zhc σ s t)))) else (f_X8_revoke_35 σ (nI s) (nI t) (bI (zhc σ s t))) := by
        rw [f_X8_revoke, c_sub_in _ hs, zx_0, c_tok_in hc hn htn, zx_0, p_X7_holdsOfChain hn ht hs htn, zb_s]
      have md0 : ∀ τ : zs, τ 66 = σ 66 → f_X9_revoke τ (nI s) (nI t) = f_X9_revoke_38 (fun _ _ _ _ _ => none) (zp τ 65 3 0) (nI s) (nI t) (bI (zhc σ s t)) (-1) := by
        intro τ e
        rw [f_X9_revoke, m_sub_in _ hs, zb_s, if_neg (by decide), m_tok_in (by rw [e]; exact hm) hn htn, zb_s, if_neg (by decide), f_X9_revoke_21, zp_e, if_pos rfl, m_rvup (c := σ) (K := K) hn (by rw [zp_n _ _ _ (by decide), e]; exact ht) hs htn]
      cases hz : zhc σ s t with
      | false =>
        rw [hz, if_pos (show bI false = 0 from rfl)] at cl0
        obtain ⟨s1, g1, g2, g3⟩ := p_begin σ 1 (nI t)
        refine zok_rep 3 2 R (L := [(1, nI t)]) (by simp) (σ1 := s1) (r := 0) ?_ (zFa_3 g2) g3 (fun _ => rfl) (by decide) ?_
        · rw [cl0, g1, zb_s, f_X8_revoke_35, f_X8_needPermission, if_pos (show bI false = 0 from rfl)]; rfl
        · have e66 : s1 66 = σ 66 := g2 66 (by decide) (by decide) (by decide)
          obtain ⟨σ2, r', m1, m2, m3, m4, m5⟩ := m_rep (zp s1 65 3 0) 1 (nI t) 2 (kk := 2) (r := 0) (f := fun r11 σ12 => some ((0 : Int32), (zp σ12 65 3 r11))) (fun τ' _ => rfl)
          refine ⟨σ2, r', ?_, m2, fun q q1 q2 q3 q4 => by rw [m3 q q1 q2 q3 q4, zp_n _ _ _ q1], fun j j1 j2 => by rw [m4 j j1 j2, zp_o _ _ j1], m5⟩
          show f_X9_revoke s1 _ _ = _
          rw [md0 _ e66, hz, f_X9_revoke_38, if_pos (by decide), if_pos (show bI false = 0 from rfl)]
          exact m1
      | true =>
        rw [hz, if_neg (show ¬ bI true = 0 by decide)] at cl0
        by_cases hr : σ 8 t = -1
        · let P : Nat → Bool := fun u => zbl σ u t && !zed σ u
          have hP : ∀ k, k < 32 → zbit (zset (fun u => zbl σ u t) n &&& zset (fun u => !zed σ u) n) k = (decide (k < n) && P k) := by
            intro k _
            rw [zbit_and, zbit_set _ (by omega), zbit_set _ (by omega)]
            show _ = (decide (k < n) && (zbl σ k t && !zed σ k))
            cases decide (k < n) <;> cases zbl σ k t <;> cases zed σ k <;> rfl
          have nv : nI s ≠ -1 := z_m1 (by omega)
          have hset : ∀ τ : zs, τ 66 = σ 66 → ∀ u, u < n → RTk (zp σ 8 t (nI s)) ((zp τ 66 (135 + t) (nI s)) 66) K u := by
            intro τ e u hu
            have T := ht u hu
            refine RTk_upd (by omega) (fun p hp => zp_n _ _ _ (by omega)) (fun j hj => by rw [zp_o _ _ (by omega), e]) T ?_ ?_ ?_
            · rw [zp_o _ _ (by omega), e, zp_n _ _ _ (by decide)]; exact RT_hold T
            · rw [zp_o _ _ (by omega), e, zp_n _ _ _ (by decide)]; exact RT_use T
            · by_cases w : u = t
              · subst w
                rw [zp_e, zp_e]; exact ⟨rfl, Or.inr (zr_i hs (by omega))⟩
              · rw [zp_o _ _ (by omega), e, zp_o _ _ w]; exact RT_rev T
          have hcnt : zcnt (fun u => zbl (zp σ 8 t (nI s)) u t && decide (zcnt (fun k => (zp σ 8 t (nI s)) 8 (zch (zp σ 8 t (nI s)) u k) != -1) (zln (zp σ 8 t (nI s)) u) = 1)) n = zcnt P n := by
            refine zcnt_cong (fun u hu => ?_)
            have a4 : ∀ u, zln (zp σ 8 t (nI s)) u = zln σ u := fun u => by rw [zln, zln, zp_n _ _ _ (by decide)]
            have a5 : ∀ u k, zch (zp σ 8 t (nI s)) u k = zch σ u k := fun u k => by rw [zch, zch, zp_n _ _ _ (by decide)]
            have a6 : zbl (zp σ 8 t (nI s)) u t = zbl σ u t := by unfold zbl; rw [a4, a4, a5]
            simp only [a4, a5, a6]
            exact z_ends (m' := σ 66) hn ht htn hr nv hu
          refine zok_0 (r := nI (zcnt P n)) (σ1 := zp σ 8 t (nI s)) (σ2 := zp (zp (zp (zp σ 8 t (nI s)) 75 0 (nI (zcnt P n))) 65 3 0) 66 (135 + t) (nI s)) ?_ ?_ ?_ ?_ ?_
          · rw [cl0, f_X8_revoke_35, f_X8_needPermission, if_neg (by decide), zx_0, zcl (by omega), zg_in _ (by omega) (by omega), if_pos hr, p_X7_setBelow hn hc ht htn, zb_s, p_X7_setOfLiving hn hc ht, zb_s, p_bitSet σ (by omega) hP, zb_s, zg_in _ (by omega) (by omega)]
          · show f_X9_revoke _ _ _ = _
            have e66 : (zp (zp σ 8 t (nI s)) 75 0 (nI (zcnt P n))) 66 = σ 66 := by rw [zp_n _ _ _ (by decide), zp_n _ _ _ (by decide)]
            rw [md0 _ e66, hz, f_X9_revoke_38, if_pos (by decide), if_neg (by decide)]
            simp (disch := omega) only [zk135, nI_add, zg_in, zcl, zp_n, hrev.1]
            rw [if_pos (show σ 8 t < 0 by rw [hr]; decide), m_rvcnt (c := zp σ 8 t (nI s)) (K := K) hn (by rw [zp_o _ _ (by omega), zp_n _ _ _ (by decide), e66]; exact hm) (hset _ (by rw [zp_n _ _ _ (by decide), e66])) htn, hcnt]
          · rw [zp_n _ _ _ (by decide), zp_e]
          · rw [zp_n _ _ _ (by decide), zp_n _ _ _ (by decide)]
          · refine RA_new (n := n) R (RS_tok (Nat.le_succ K) hS0 (fun p hp => ?_) (fun j hj => ?_) (fun u hu => ?_)) (fun p hp => ?_) (fun j hj => ?_)
            · repeat rw [zp_n _ _ _ (by omega)]
            · rw [zp_o _ _ (by omega)]
              repeat rw [zp_n _ _ _ (by decide)]
            · have T := RTk_mono (Nat.le_succ K) (ht u hu)
              refine ⟨?_, ?_, ?_⟩
              · rw [zp_o _ _ (by omega)]
                repeat rw [zp_n _ _ _ (by decide)]
                exact RT_hold T
              · rw [zp_o _ _ (by omega)]
                repeat rw [zp_n _ _ _ (by decide)]
                exact RT_use T
              · by_cases w : u = t
                · subst w
                  rw [zp_e, zp_n _ _ _ (by decide), zp_n _ _ _ (by decide), zp_n _ _ _ (by decide), zp_e]
                  exact ⟨rfl, Or.inr (zr_i hs (by omega))⟩
                · rw [zp_o _ _ (by omega)]
                  repeat rw [zp_n _ _ _ (by decide)]
                  rw [zp_o _ _ w]
                  exact RT_rev T
            · repeat rw [zp_n _ _ _ (by omega)]
            · rw [zp_n _ _ _ (by decide), zp_o _ _ (by omega), zp_n _ _ _ (by decide), zp_n _ _ _ (by decide)]
        · have zn := z_neg hrev.2
          refine zokq_0 (r := 0) R ⟨σ, ?_, zQx_refl σ⟩ (fun τ hv => ⟨zp τ 65 3 0, ?_, zp_e _ _ _ _, zMx_3 _ _⟩)
          · rw [cl0, f_X8_revoke_35, f_X8_needPermission, if_neg (by decide), zx_0, zcl (by omega), zg_in _ (by omega) (by omega), if_neg hr]
          · have e := hv 66 (by decide) (by decide)
            show f_X9_revoke _ _ _ = _
            rw [md0 _ e, hz, f_X9_revoke_38, if_pos (by decide), if_neg (by decide)]
            simp (disch := omega) only [zk135, nI_add, zg_in, zcl, zp_n, e, hrev.1]
            rw [if_neg (show ¬ σ 8 t < 0 by rw [zn]; exact hr)]
    · refine zokq_e 0 1 R ⟨σ, 0, ?_, zQx_refl σ⟩ (fun _ => rfl) (by decide) (fun τ hv => ⟨zp τ 65 3 1, 0, ?_, zp_e _ _ _ _, zMx_3 _ _⟩)
      · rw [f_X8_revoke, c_sub_in _ hs, zx_0, c_tok_out hc ho2]; rfl
      · have e := hv 66 (by decide) (by decide)
        rw [f_X9_revoke, m_sub_in _ hs, zb_s, if_neg (by decide), m_tok_out (by rw [e]; exact hm) hn ho2, zb_s, if_pos rfl, o21]
  · refine zokq_e 0 1 R ⟨σ, 0, ?_, zQx_refl σ⟩ (fun _ => rfl) (by decide) (fun τ hv => ⟨zp τ 65 3 1, 0, ?_, zp_e _ _ _ _, zMx_3 _ _⟩)
    · rw [f_X8_revoke, c_sub_out σ ho]; rfl
    · rw [f_X9_revoke, m_sub_out _ ho, zb_s, if_pos rfl, o21]
end PS
