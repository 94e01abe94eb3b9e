/-! coming, round, reached, isConfined -/
theorem zobs_cong {c c' : zs} {p q : Nat → Bool} {n : Nat} (h3 : c' 3 = c 3) (h : ∀ t, t < n → p t = q t) : zobs c' p n = zobs c q n := by
  unfold zobs
  rw [h3]
  exact zfold_cong (fun t ht v => by rw [h t ht])
def zokb (x : Option (Int32 × zs)) (g : zs → Option (Int32 × zs)) (K : Nat) : Prop := ∃ k σ1 r σ2, x = some (k, σ1) ∧ g σ1 = some (r, σ2) ∧ σ2 65 3 = k ∧ (k = 0 → σ2 75 0 = r ∧ (r = 0 ∨ r = 1)) ∧ RA σ2 K
theorem zokb_e {σ : zs} {X : Option zO} {G : Int32 → zs → Option (Int32 × zs)} {g : zs → Option (Int32 × zs)} {H : Nat → zs → Option (Int32 × zs)} {K : Nat} (e : Nat) (k : Int32) (R : RA σ K) (hX : ∃ (σ1 : zs) (r : Int32), X = some (e + 1, r, σ1) ∧ zQx σ σ1) (hH : ∀ τ : zs, H (e + 1) τ = some (k, τ)) (hk : k ≠ 0) (hg : ∀ τ : zs, zVw σ τ → ∃ (τ' : zs) (r : Int32), g τ = some (r, τ') ∧ τ' 65 3 = k ∧ zMx τ τ') : zokb (zc X G H) g (K + 1) := by
  obtain ⟨σ1, r, hX, hq⟩ := hX
  obtain ⟨τ', r', e', h3, hm⟩ := hg σ1 (fun p hp hq2 => hq p (by omega))
  refine ⟨k, σ1, r', τ', ?_, e', h3, fun h => absurd h hk, RA_q R hq hm⟩
  rw [hX, zc_s, hH]
theorem z_endb {x : Option (Int32 × zs)} {g : zs → Option (Int32 × zs)} {K v : Nat} {K23 : zs → Int32 → Option (Int32 × zs)} {out : Option (Int32 × zs)} (h : zokb x g K) (hk : ∀ σ', RA σ' K → K23 σ' (nI (v + 5)) = out) :
    zb x (fun r2 σ3 => zb (g σ3) (fun r5 σ6 => zb (f_X9_thrown σ6) (fun r8 σ9 => if r8 = r2 then (if r2 = 0 then (zg (zin (0 : Int32) 1) (if r5 = 0 then (if (lg_cmp (σ9 75 (0 : Int32).toNatClampNeg).toInt64 (0 : Int32).toInt64) = 0 then (K23 σ9 (nI v + (5 : Int32))) else (some ((0 : Int32), σ9))) else (if (lg_cmp (σ9 75 (0 : Int32).toNatClampNeg).toInt64 (1 : Int32).toInt64) = 0 then (K23 σ9 (nI v + (5 : Int32))) else (some ((0 : Int32), σ9))))) else (K23 σ9 (nI v + (5 : Int32)))) else (some ((0 : Int32), σ9))))) = out := by
  obtain ⟨k, σ1, r, σ2, e1, e2, e3, e4, R⟩ := h
  have e5 : nI v + (5 : Int32) = nI (v + 5) := by rw [zk5, nI_add]
  rw [e1, zb_s, e2, zb_s, f_X9_thrown, zb_s, if_pos e3, e5]
  by_cases hk0 : k = 0
  · obtain ⟨e6, e7⟩ := e4 hk0
    rw [if_pos hk0, zg_0 _ (by decide), zcl0]
    rcases e7 with rfl | rfl
    · rw [if_pos rfl, if_pos (z_cmp e6)]
      exact hk σ2 R
    · rw [if_neg (by decide), if_pos (z_cmp e6)]
      exact hk σ2 R
  · rw [if_neg hk0]
    exact hk σ2 R
section PZ
variable {σ : zs} {K : Nat}
theorem c_find (hK : K < 1000) {n : Nat} (hS : RS σ (σ 66) K n) : ∃ nx, nx ≤ 12 ∧ σ 66 3 = nI nx ∧ zQfi σ n (zBb σ n nx) (f_X4_find_1 σ) := by
  obtain ⟨hn, ⟨hc, hm⟩, ht, ⟨np, nx, hnp, hnx, ⟨p1, p2⟩, ⟨x1, x2⟩, hp, hx⟩, -⟩ := hS
  exact ⟨nx, hnx, x2, p_find hn (by omega) hc ht hnp hnx x1 (fun b hb => ⟨(hx b hb).1.2, (hx b hb).2.1.2⟩)⟩
theorem zQx_fi {s : zs} (f : ∀ p, p ≠ 13 → p ≠ 58 → p ≠ 59 → p ≠ 60 → p ≠ 61 → s p = σ p) : zQx σ s := fun p hp => f p (by omega) (by omega) (by omega) (by omega) (by omega)
theorem zMx_73 {τ s : zs} {v : Int32} (f : ∀ p, p ≠ 73 → s p = (zp τ 65 3 v) p) : zMx τ s := ⟨fun p hp => by rw [f p (by omega), zp_n _ _ _ (by omega)], fun j hj => by rw [f 65 (by decide), zp_o _ _ (by omega)]⟩
/-- the reference's comes, in a world behind the class's call -/
theorem c_comes {n : Nat} (hS : RS σ (σ 66) K n) {nx : Nat} (hnx : nx ≤ 12) (h3 : σ 66 3 = nI nx) {τ : zs} (e : τ 66 = σ 66) : zQcm σ (zp τ 65 3 0) n (zBb σ n nx) (f_X9_comes (zp τ 65 3 0)) := by
  obtain ⟨hn, ⟨hc, hm⟩, ht, hbx, hjn, hob, htm, hex⟩ := hS
  have e2 : (zp τ 65 3 0) 66 = σ 66 := by rw [zp_n _ _ _ (by decide)]; exact e
  exact m_comes (K := K) hn (by rw [e2]; exact hm) (by rw [e2]; exact ht) (by rw [e2]; exact htm.1) (by rw [e2]; exact hbx) hnx (by rw [e2]; exact h3)
theorem k_coming (hK : K < 1000) (R : RA σ K) (a : Int32) : zok (f_L_coming_0_75 σ a) (fun τ => f_X9_coming τ a) (K + 1) := by
  obtain ⟨n, hS⟩ := R.1
  obtain ⟨nx, hnx, h3, s1, g1, g2, g3, g4, g5⟩ := c_find hK hS
  rcases zcase a (n := 6) (by omega) with ⟨u, hu, rfl⟩ | ho
  · refine zokq_0 (r := s1 58 u) R ⟨s1, ?_, zQx_fi g2⟩ (fun τ hv => ?_)
    · rw [f_X8_coming, c_sub_in σ hu, zx_0, g1, zb_s, zg_in _ (by omega) (by omega), zcl (by omega)]
    · have e := hv 66 (by decide) (by decide)
      obtain ⟨s2, w1, w2, w3⟩ := c_comes hS hnx h3 e
      refine ⟨s2, ?_, by rw [w2 65 (by decide), zp_e], zMx_73 w2⟩
      show f_X9_coming τ (nI u) = _
      rw [f_X9_coming, m_sub_in _ hu, zb_s, if_neg (by decide), f_X9_coming_13, zp_e, if_pos rfl, w1, zb_s, zg_in _ (by omega) (by omega), zcl (by omega)]
      have e1 : s2 73 u = s1 58 u := zbit_ext (fun t ht => by rw [w3 u hu t ht, g3 u hu t ht])
      rw [e1]
  · refine zokq_e 0 1 R ⟨σ, 0, ?_, zQx_refl σ⟩ (fun _ => rfl) (by decide) (fun τ hv => ⟨zp τ 65 3 1, 0, ?_, zp_e _ _ _ _, zMx_3 _ _⟩)
    · rw [f_X8_coming, c_sub_out σ ho]; rfl
    · rw [f_X9_coming, m_sub_out _ ho, zb_s, if_pos rfl, f_X9_coming_13, zp_e, if_neg (by decide)]
theorem k_round (hK : K < 1000) (R : RA σ K) (a b : Int32) : zok (f_L_round_0_75 σ a b) (fun τ => f_X9_round τ a b) (K + 1) := by
  obtain ⟨n, hS⟩ := R.1
  obtain ⟨nx, hnx, h3, s1, g1, g2, g3, g4, g5⟩ := c_find hK hS
  obtain ⟨hn, ⟨hc, hm⟩, ht, hbx, hjn, hob, htm, hex⟩ := hS
  have o21 : ∀ τ : zs, f_X9_round_21 τ a b 1 = some (0, zp τ 65 3 1) := fun τ => by rw [f_X9_round_21, zp_e, if_neg (by decide)]
  rcases zcase a (n := 6) (by omega) with ⟨u, hu, rfl⟩ | ho
  · rcases zcase b (n := n) (by omega) with ⟨t, htn, rfl⟩ | ho2
    · have cl : f_X8_round σ (nI u) (nI t) = zx (f_X8_needElement s1 (bI (zRb σ n (zBb σ n nx) 168 u t))) (fun r14 σ15 => some (0, (σ15 60 (u * 28 + t)), σ15)) := by
        rw [f_X8_round, c_sub_in σ hu, zx_0, c_tok_in hc hn htn, zx_0, g1, zb_s, zg_in _ (by omega) (by omega), zcl (by omega), p_hasBit _ _ (show t < 32 by omega), zb_s, g3 u hu t (by omega)]
        simp (disch := omega) only [zk28, nI_mul, nI_add, zg_in, zcl]
      have md : ∀ τ : zs, τ 66 = σ 66 → zQrd σ τ n (zBb σ n nx) u t (f_X9_round τ (nI u) (nI t)) := by
        intro τ e
        rw [f_X9_round, m_sub_in _ hu, zb_s, if_neg (by decide), m_tok_in (by rw [e]; exact hm) hn htn, zb_s, if_neg (by decide)]
        exact m_round (K := K) hn (by rw [e]; exact hm) (by rw [e]; exact ht) (by rw [e]; exact htm.1) (by rw [e]; exact hbx) hnx (by rw [e]; exact h3) hu htn
      have fm : ∀ {τ s : zs}, (∀ p, p ≠ 65 → p ≠ 73 → p ≠ 74 → s p = τ p) → (∀ j, j ≠ 3 → s 65 j = τ 65 j) → zMx τ s := fun f g => ⟨fun p hp => f p (by omega) (by omega) (by omega), fun j hj => g j (by omega)⟩
      cases hb : zRb σ n (zBb σ n nx) 168 u t with
      | true =>
        obtain ⟨k, hk1, hk3⟩ : ∃ k, zRb σ n (zBb σ n nx) k u t = true ∧ ∀ j, j < k → zRb σ n (zBb σ n nx) j u t = false := by
          rcases zfirst (fun k => zRb σ n (zBb σ n nx) k u t) 169 with ⟨k, -, hp, hq⟩ | hq
          · exact ⟨k, hp, hq⟩
          · have := hq 168 (by omega)
            rw [hb] at this; cases this
        refine zokq_0 (r := nI k) R ⟨s1, ?_, zQx_fi g2⟩ (fun τ hv => ?_)
        · rw [cl, hb, f_X8_needElement, if_neg (show ¬ bI true = 0 by decide), zx_0, g5 u hu t htn k hk1 hk3]
        · obtain ⟨s, f1, f2, hh⟩ := md τ (hv 66 (by decide) (by decide))
          rcases hh with ⟨k2, r1, r2, r3, r4⟩ | ⟨r1, -, -⟩
          · obtain rfl : k2 = k := by
              rcases Nat.lt_trichotomy k2 k with q | q | q
              · rw [hk3 k2 q] at r1; cases r1
              · exact q
              · rw [r2 k q] at hk1; cases hk1
            exact ⟨s, r3, r4, fm f1 f2⟩
          · rw [hb] at r1; cases r1
      | false =>
        refine zokq_e 4 2 R ⟨s1, 0, ?_, zQx_fi g2⟩ (fun _ => rfl) (by decide) (fun τ hv => ?_)
        · rw [cl, hb, f_X8_needElement, if_pos (show bI false = 0 from rfl)]; rfl
        · obtain ⟨s, f1, f2, hh⟩ := md τ (hv 66 (by decide) (by decide))
          rcases hh with ⟨k, r1, -, -, -⟩ | ⟨r1, r2, r3⟩
          · have : zRb σ n (zBb σ n nx) 168 u t = true := zRb_in (zRb_le σ n (zBb σ n nx) (j := 0) (Nat.zero_le _)) (zRb_clo hn _) k u hu t r1
            rw [hb] at this; cases this
          · exact ⟨s, 0, r2, r3, fm f1 f2⟩
    · refine zokq_e 0 1 R ⟨σ, 0, ?_, zQx_refl σ⟩ (fun _ => rfl) (by decide) (fun τ hv => ⟨zp τ 65 3 1, 0, ?_, zp_e _ _ _ _, zMx_3 _ _⟩)
      · rw [f_X8_round, c_sub_in _ hu, zx_0, c_tok_out hc ho2]; rfl
      · have e := hv 66 (by decide) (by decide)
        rw [f_X9_round, m_sub_in _ hu, zb_s, if_neg (by decide), m_tok_out (by rw [e]; exact hm) hn ho2, zb_s, if_pos rfl, o21]
  · refine zokq_e 0 1 R ⟨σ, 0, ?_, zQx_refl σ⟩ (fun _ => rfl) (by decide) (fun τ hv => ⟨zp τ 65 3 1, 0, ?_, zp_e _ _ _ _, zMx_3 _ _⟩)
    · rw [f_X8_round, c_sub_out σ ho]; rfl
    · rw [f_X9_round, m_sub_out _ ho, zb_s, if_pos rfl, o21]
def zrch (σ : zs) (n nx u : Nat) : Int32 := zobs σ (fun t => zRb σ n (zBb σ n nx) 168 u t && !decide (zopen σ (nI u) t = 0)) n
theorem c_reach {n nx : Nat} (hS : RS σ (σ 66) K n) {s1 : zs} (g2 : ∀ p, p ≠ 13 → p ≠ 58 → p ≠ 59 → p ≠ 60 → p ≠ 61 → s1 p = σ p) (g3 : zis (s1 58) (zRb σ n (zBb σ n nx) 168)) (g4 : ∀ u, u < 6 → ∀ t, t < n → s1 61 (u * 28 + t) = zopen σ (nI u) t) {u : Nat} (hu : u < 6) : f_X4_objectsOf_2 s1 (nI u) = some (zrch σ n nx u, s1) := by
  have hn := hS.1
  rw [p_objectsOf hn (by rw [g2 2 (by decide) (by decide) (by decide) (by decide) (by decide)]; exact hS.2.1.1) hu]
  have e := zobs_cong (c := σ) (c' := s1) (n := n) (p := fun t => zbit (s1 58 u) t && !decide (s1 61 (u * 28 + t) &&& 15 = 0)) (q := fun t => zRb σ n (zBb σ n nx) 168 u t && !decide (zopen σ (nI u) t = 0)) (g2 3 (by decide) (by decide) (by decide) (by decide) (by decide)) (fun t ht => by
    show (zbit (s1 58 u) t && !decide (s1 61 (u * 28 + t) &&& 15 = 0)) = _
    rw [g3 u hu t (by omega), g4 u hu t ht, zopen_15])
  rw [e]; rfl
theorem zobs_s (c : zs) (p : Nat → Bool) (i : Nat) : zobs c p (i + 1) = if p i then zobs c p i ||| ((1 : Int32) <<< (c 3 i &&& 31)) else zobs c p i := rfl
theorem m_reachedBy {n nx : Nat} (hS : RS σ (σ 66) K n) (hnx : nx ≤ 12) (h3 : σ 66 3 = nI nx) {τ : zs} (e : τ 66 = σ 66) {u : Nat} (hu : u < 6) : ∃ s : zs, f_X9_reachedBy (zp τ 65 3 0) (nI u) = some (zrch σ n nx u, s) ∧ ∀ p, p ≠ 73 → s p = (zp τ 65 3 0) p := by
  obtain ⟨s2, w1, w2, w3⟩ := c_comes hS hnx h3 e
  obtain ⟨hn, ⟨hc, hm⟩, ht, hbx, hjn, hob, htm, hex⟩ := hS
  have e66 : s2 66 = σ 66 := by rw [w2 66 (by decide), zp_n _ _ _ (by decide)]; exact e
  refine ⟨s2, ?_, w2⟩
  rw [f_X9_reachedBy, w1, zb_s, zi0]
  have hop : ∀ i, i < n → f_X9_openRights s2 (nI u) (nI i) = some (zopen σ (nI u) i, s2) := fun i hi => m_openRights (c := σ) (K := K) hn (by rw [e66]; exact ht) (by rw [e66]; exact htm.1) hi (nI u)
  refine zlr3 n (fun _ => s2) (fun _ => nI u) (fun i => zobs σ (fun t => zRb σ n (zBb σ n nx) 168 u t && !decide (zopen σ (nI u) t = 0)) i) nI (fun i hi rec => ?_) (fun rec => ?_) 1000 (by omega)
  · have oo := (RT_obj (ht i hi)).1
    have hs : zobs σ (fun t => zRb σ n (zBb σ n nx) 168 u t && !decide (zopen σ (nI u) t = 0)) (i + 1) = if (zRb σ n (zBb σ n nx) 168 u i && !decide (zopen σ (nI u) i = 0)) then zobs σ (fun t => zRb σ n (zBb σ n nx) 168 u t && !decide (zopen σ (nI u) t = 0)) i ||| ((1 : Int32) <<< (σ 3 i &&& 31)) else zobs σ (fun t => zRb σ n (zBb σ n nx) 168 u t && !decide (zopen σ (nI u) t = 0)) i := zobs_s σ _ i
    rw [hs, f_X9_reachedBy_8, zG1, zC1, e66, hm]
    simp (disch := omega) only [znI_le, zg_in, zcl]
    rw [if_neg (by omega), p_has _ _ (show i < 32 by omega), zb_s, w3 u hu i (by omega), bI_0]
    cases zRb σ n (zBb σ n nx) 168 u i with
    | false => rw [if_neg (by decide), f_X9_reachedBy_56, zor0, nI_1]; rfl
    | true =>
      rw [if_pos rfl, hop i hi, zb_s]
      by_cases q : zopen σ (nI u) i = 0
      · rw [if_pos q, f_X9_reachedBy_56, zor0, nI_1, decide_eq_true q]; rfl
      · rw [if_neg q]
        simp (disch := omega) only [zk51, nI_add, zg_in, zcl, e66, oo]
        rw [f_X9_reachedBy_56, nI_1, decide_eq_false q]; rfl
  · rw [f_X9_reachedBy_8, zG1, zC1, e66, hm, if_pos (Int32.le_refl _)]; rfl
theorem k_reached (hK : K < 1000) (R : RA σ K) (a : Int32) : zok (f_L_reached_0_75 σ a) (fun τ => f_X9_reached τ a) (K + 1) := by
  obtain ⟨n, hS⟩ := R.1
  obtain ⟨nx, hnx, h3, s1, g1, g2, g3, g4, g5⟩ := c_find hK hS
  rcases zcase a (n := 6) (by omega) with ⟨u, hu, rfl⟩ | ho
  · refine zokq_0 (r := zrch σ n nx u) R ⟨s1, ?_, zQx_fi g2⟩ (fun τ hv => ?_)
    · rw [f_X8_reached, c_sub_in σ hu, zx_0, g1, zb_s, c_reach hS g2 g3 g4 hu, zb_s]
    · obtain ⟨s2, w1, w2⟩ := m_reachedBy hS hnx h3 (hv 66 (by decide) (by decide)) hu
      refine ⟨s2, ?_, by rw [w2 65 (by decide), zp_e], zMx_73 w2⟩
      show f_X9_reached τ (nI u) = _
      rw [f_X9_reached, m_sub_in _ hu, zb_s, if_neg (by decide), f_X9_reached_13, zp_e, if_pos rfl, w1, zb_s]
  · refine zokq_e 0 1 R ⟨σ, 0, ?_, zQx_refl σ⟩ (fun _ => rfl) (by decide) (fun τ hv => ⟨zp τ 65 3 1, 0, ?_, zp_e _ _ _ _, zMx_3 _ _⟩)
    · rw [f_X8_reached, c_sub_out σ ho]; rfl
    · rw [f_X9_reached, m_sub_out _ ho, zb_s, if_pos rfl, f_X9_reached_13, zp_e, if_neg (by decide)]
theorem k_isConfined (hK : K < 1000) (R : RA σ K) (a b : Int32) : zokb (f_L_isConfined_0_75 σ a b) (fun τ => f_X9_isConfined τ a b) (K + 1) := by
  obtain ⟨n, hS⟩ := R.1
  obtain ⟨nx, hnx, h3, s1, g1, g2, g3, g4, g5⟩ := c_find hK hS
  have o25 : ∀ (τ : zs) (e : Int32), e ≠ 0 → f_X9_isConfined_25 τ a b e = some (0, zp τ 65 3 e) := fun τ e he => by rw [f_X9_isConfined_25, zp_e, if_neg he]
  rcases zcase a (n := 6) (by omega) with ⟨u, hu, rfl⟩ | ho
  · by_cases hb : b &&& (-4096 : Int32) = 0
    · have cl : f_X8_isConfined σ (nI u) b = some (0, (if zrch σ n nx u &&& (b ^^^ (-1 : Int32)) = 0 then 1 else 0), s1) := by
        rw [f_X8_isConfined, c_sub_in σ hu, zx_0, if_pos hb, f_X8_isConfined_17, f_X8_needArgument, if_neg (by decide), zx_0, g1, zb_s, c_reach hS g2 g3 g4 hu, zb_s]
        split <;> rfl
      have md : ∀ τ : zs, τ 66 = σ 66 → ∃ s2 : zs, f_X9_isConfined τ (nI u) b = some ((if zrch σ n nx u &&& (b ^^^ (-1 : Int32)) = 0 then 1 else 0), s2) ∧ ∀ p, p ≠ 73 → s2 p = (zp τ 65 3 0) p := by
        intro τ e
        obtain ⟨s2, w1, w2⟩ := m_reachedBy hS hnx h3 e hu
        refine ⟨s2, ?_, w2⟩
        rw [f_X9_isConfined, m_sub_in _ hu, zb_s, if_neg (by decide), if_pos hb, f_X9_isConfined_25, zp_e, if_pos rfl, w1, zb_s]
        split <;> rfl
      have hr : (if zrch σ n nx u &&& (b ^^^ (-1 : Int32)) = 0 then (1 : Int32) else 0) = 0 ∨ (if zrch σ n nx u &&& (b ^^^ (-1 : Int32)) = 0 then (1 : Int32) else 0) = 1 := by
        split
        · exact Or.inr rfl
        · exact Or.inl rfl
      generalize (if zrch σ n nx u &&& (b ^^^ (-1 : Int32)) = 0 then (1 : Int32) else 0) = r at cl md hr
      obtain ⟨s2, w1, w2⟩ := md (zp s1 75 0 r) (by rw [zp_n _ _ _ (by decide), g2 66 (by decide) (by decide) (by decide) (by decide) (by decide)])
      refine ⟨0, zp s1 75 0 r, r, s2, ?_, w1, by rw [w2 65 (by decide), zp_e], fun _ => ⟨by rw [w2 75 (by decide), zp_n _ _ _ (by decide), zp_e], hr⟩, RA_cong (Nat.le_succ K) ⟨fun p hp => ?_, fun j hj => ?_⟩ R⟩
      · rw [f_L_isConfined_0_75, cl, zc_0]
        rcases hr with rfl | rfl
        · rw [if_pos rfl, zg_0 _ (by decide)]; rfl
        · rw [if_neg (by decide), zg_0 _ (by decide)]; rfl
      · rw [w2 p (by omega), zp_n _ _ _ (by omega), zp_n _ _ _ (by omega), g2 p (by omega) (by omega) (by omega) (by omega) (by omega)]
      · rw [w2 65 (by decide), zp_o _ _ (by omega), zp_n _ _ _ (by decide), g2 65 (by decide) (by decide) (by decide) (by decide) (by decide)]
    · refine zokb_e 1 2 R ⟨σ, 0, ?_, zQx_refl σ⟩ (fun _ => rfl) (by decide) (fun τ hv => ⟨zp τ 65 3 2, 0, ?_, zp_e _ _ _ _, zMx_3 _ _⟩)
      · rw [f_X8_isConfined, c_sub_in σ hu, zx_0, if_neg hb]; rfl
      · show f_X9_isConfined τ _ _ = _
        rw [f_X9_isConfined, m_sub_in _ hu, zb_s, if_neg (by decide), if_neg hb, o25 _ _ (by decide)]
  · refine zokb_e 0 1 R ⟨σ, 0, ?_, zQx_refl σ⟩ (fun _ => rfl) (by decide) (fun τ hv => ⟨zp τ 65 3 1, 0, ?_, zp_e _ _ _ _, zMx_3 _ _⟩)
    · rw [f_X8_isConfined, c_sub_out σ ho]; rfl
    · show f_X9_isConfined τ _ _ = _
      rw [f_X9_isConfined, m_sub_out _ ho, zb_s, if_pos rfl, o25 _ _ (by decide)]
end PZ
