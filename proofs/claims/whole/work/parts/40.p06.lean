/-! what does not count may change; one call of the law -/
theorem RTk_cong {c c' : zs} {m : Nat → Int32} {K t : Nat} (h : ∀ p, (1 ≤ p ∧ p ≤ 24 ∧ p ≠ 13) → c' p = c p) (R : RTk c m K t) : RTk c' m K t := by
  simp only [RTk, zch, zln, h 3 (by decide), h 4 (by decide), h 5 (by decide), h 6 (by decide), h 7 (by decide), h 8 (by decide), h 9 (by decide), h 10 (by decide), h 11 (by decide), h 12 (by decide)] at R ⊢
  exact R
theorem RS_cong {c c' : zs} {m : Nat → Int32} {K n : Nat} (h : ∀ p, (1 ≤ p ∧ p ≤ 24 ∧ p ≠ 13) → c' p = c p) (R : RS c m K n) : RS c' m K n := by
  obtain ⟨a1, a2, a3, a4, a5, a6, a7, a8⟩ := R
  refine ⟨a1, by rw [h 2 (by decide)]; exact a2, fun t ht => RTk_cong h (a3 t ht), ?_, ?_, ?_, ?_, ?_⟩
  · simp only [RBx, h 14 (by decide), h 15 (by decide), h 16 (by decide), h 17 (by decide), h 18 (by decide), h 19 (by decide)] at a4 ⊢
    exact a4
  · simp only [RJn, h 20 (by decide), h 21 (by decide)] at a5 ⊢
    exact a5
  · simp only [ROb, h 22 (by decide), h 23 (by decide)] at a6 ⊢
    exact a6
  · simp only [RTm, h 1 (by decide)] at a7 ⊢
    exact a7
  · simp only [REx, h 1 (by decide), h 24 (by decide)] at a8 ⊢
    exact a8
theorem RTk_mono {c : zs} {m : Nat → Int32} {K K' t : Nat} (h : K ≤ K') (R : RTk c m K t) : RTk c m K' t := by
  obtain ⟨a1, a2, a3, a4, a5, a6, a7⟩ := R
  exact ⟨a1, a2, a3, a4, a5, ⟨a6.1, zr_le a6.2 (by omega)⟩, a7⟩
theorem RS_mono {c : zs} {m : Nat → Int32} {K K' n : Nat} (h : K ≤ K') (R : RS c m K n) : RS c m K' n := by
  obtain ⟨a1, a2, a3, a4, a5, a6, a7, a8⟩ := R
  exact ⟨a1, a2, fun t ht => RTk_mono h (a3 t ht), a4, a5, a6, ⟨a7.1, zr_le a7.2 (by omega)⟩, a8⟩
theorem RKp_mono {σ : zs} {K K' : Nat} (h : K ≤ K') (R : RKp σ K) : RKp σ K' := by
  rcases R with R | ⟨a1, a2, n, a3⟩
  · exact Or.inl R
  · exact Or.inr ⟨a1, a2, n, RS_mono h a3⟩
/-- the cells that RA speaks of but those of the state -/
def zKp (σ σ' : zs) : Prop := (∀ p, (p = 0 ∨ (25 ≤ p ∧ p ≤ 48) ∨ p = 67) → σ' p = σ p) ∧ σ' 65 2 = σ 65 2
theorem RKp_cong {σ σ' : zs} {K : Nat} (h : zKp σ σ') (R : RKp σ K) : RKp σ' K := by
  rcases R with R | ⟨a1, a2, n, a3⟩
  · exact Or.inl ⟨by rw [h.1 0 (Or.inl rfl)]; exact R.1, by rw [h.2]; exact R.2⟩
  · refine Or.inr ⟨by rw [h.1 0 (Or.inl rfl)]; exact a1, by rw [h.2]; exact a2, n, ?_⟩
    rw [h.1 67 (by omega)]
    exact RS_cong (c := zkp σ) (c' := zkp σ') (fun p hp => h.1 (p + 24) (by omega)) a3
def zRA (σ σ' : zs) : Prop := (∀ p, ((p ≤ 12) ∨ (14 ≤ p ∧ p ≤ 53) ∨ p = 63 ∨ (66 ≤ p ∧ p ≤ 68) ∨ p = 70 ∨ p = 71) → σ' p = σ p) ∧ ∀ j, (j = 2 ∨ j = 5 ∨ j = 6 ∨ j = 10) → σ' 65 j = σ 65 j
theorem RA_cong {σ σ' : zs} {K K' : Nat} (hk : K ≤ K') (h : zRA σ σ') (R : RA σ K) : RA σ' K' := by
  obtain ⟨⟨n, a1⟩, a2, a3, a4, a5⟩ := R
  have f := h.1
  have g := h.2
  refine ⟨⟨n, ?_⟩, RKp_mono hk (RKp_cong ⟨fun p hp => f p (by omega), g 2 (by decide)⟩ a2), ?_, ?_, ?_⟩
  · rw [f 66 (by decide)]
    exact RS_mono hk (RS_cong (fun p hp => f p (by omega)) a1)
  · simp only [RRp, f 49 (by decide), f 50 (by decide), f 51 (by decide), f 70 (by decide), f 71 (by decide), g 10 (by decide)] at a3 ⊢
    exact a3
  · simp only [RTx, f 52 (by decide), f 53 (by decide), f 68 (by decide), g 5 (by decide), g 6 (by decide)] at a4 ⊢
    exact a4
  · simp only [RSB, f 63 (by decide)] at a5 ⊢
    exact a5
/-- a query of the class: what it may change -/
def zQx (σ σ' : zs) : Prop := ∀ p, ((p ≤ 12) ∨ (14 ≤ p ∧ p ≤ 53) ∨ 63 ≤ p) → σ' p = σ p
theorem zQx_refl (σ : zs) : zQx σ σ := fun _ _ => rfl
theorem zQx_13 {σ σ' : zs} (h : ∀ p, p ≠ 13 → σ' p = σ p) : zQx σ σ' := fun p hp => h p (by omega)
/-- a query of the reference -/
def zMx (τ τ' : zs) : Prop := (∀ p, ((p ≤ 64) ∨ (66 ≤ p ∧ p ≤ 68) ∨ p = 70 ∨ p = 71 ∨ 75 ≤ p) → τ' p = τ p) ∧ ∀ j, (j = 2 ∨ j = 5 ∨ j = 6 ∨ j = 10) → τ' 65 j = τ 65 j
theorem zMx_refl (σ : zs) : zMx σ σ := ⟨fun _ _ => rfl, fun _ _ => rfl⟩
theorem zMx_trans {a b c : zs} (h : zMx a b) (k : zMx b c) : zMx a c := ⟨fun p hp => (k.1 p hp).trans (h.1 p hp), fun j hj => (k.2 j hj).trans (h.2 j hj)⟩
theorem zMx_3 (τ : zs) (v : Int32) : zMx τ (zp τ 65 3 v) := ⟨fun p hp => zp_n _ _ _ (by omega), fun j hj => zp_o _ _ (by omega)⟩
/-- the reference's side of a world behind the class's call -/
def zVw (σ τ : zs) : Prop := ∀ p, 65 ≤ p → p ≠ 75 → τ p = σ p
def zok (x : Option (Int32 × zs)) (g : zs → Option (Int32 × zs)) (K : Nat) : Prop := ∃ k σ1 r σ2, x = some (k, σ1) ∧ g σ1 = some (r, σ2) ∧ σ2 65 3 = k ∧ (k = 0 → σ2 75 0 = r) ∧ RA σ2 K
theorem zok_0 {X : Option zO} {g : zs → Option (Int32 × zs)} {H : Nat → zs → Option (Int32 × zs)} {K : Nat} {r : Int32} {σ1 σ2 : zs} (hX : X = some (0, r, σ1)) (hg : g (zp σ1 75 0 r) = some (r, σ2)) (h3 : σ2 65 3 = 0) (ho : σ2 75 = (zp σ1 75 0 r) 75) (R : RA σ2 K) : zok (zc X (fun r2 σ3 => zg (zin (0 : Int32) 1) (some ((0 : Int32), (zp σ3 75 (0 : Int32).toNatClampNeg r2)))) H) g K := by
  refine ⟨0, zp σ1 75 0 r, r, σ2, ?_, hg, h3, fun _ => by rw [ho, zp_e], R⟩
  rw [hX, zc_0, zg_0 _ (by decide)]; rfl
theorem zok_e {X : Option zO} {G : Int32 → zs → Option (Int32 × zs)} {g : zs → Option (Int32 × zs)} {H : Nat → zs → Option (Int32 × zs)} {K e : Nat} {k r r' : Int32} {σ1 σ2 : zs} (hX : X = some (e + 1, r, σ1)) (hH : H (e + 1) σ1 = some (k, σ1)) (hk : k ≠ 0) (hg : g σ1 = some (r', σ2)) (h3 : σ2 65 3 = k) (R : RA σ2 K) : zok (zc X G H) g K := by
  refine ⟨k, σ1, r', σ2, ?_, hg, h3, fun h => absurd h hk, R⟩
  rw [hX, zc_s, hH]
theorem RA_q {σ σ1 σ2 : zs} {K : Nat} (R : RA σ K) (h1 : zQx σ σ1) (hv : zMx σ1 σ2) : RA σ2 (K + 1) :=
  RA_cong (Nat.le_succ K) ⟨fun p hp => by rw [hv.1 p (by omega), h1 p (by omega)], fun j hj => by rw [hv.2 j hj, h1 65 (by omega)]⟩ R
theorem zokq_0 {σ : zs} {X : Option zO} {g : zs → Option (Int32 × zs)} {H : Nat → zs → Option (Int32 × zs)} {K : Nat} {r : Int32} (R : RA σ K) (hX : ∃ σ1 : zs, X = some (0, r, σ1) ∧ zQx σ σ1) (hg : ∀ τ : zs, zVw σ τ → ∃ τ' : zs, g τ = some (r, τ') ∧ τ' 65 3 = 0 ∧ zMx τ τ') : zok (zc X (fun r2 σ3 => zg (zin (0 : Int32) 1) (some ((0 : Int32), (zp σ3 75 (0 : Int32).toNatClampNeg r2)))) H) g (K + 1) := by
  obtain ⟨σ1, hX, hq⟩ := hX
  obtain ⟨τ', e, h3, hm⟩ := hg (zp σ1 75 0 r) (fun p hp hq2 => by rw [zp_n _ _ _ hq2, hq p (by omega)])
  refine zok_0 hX e h3 (hm.1 75 (by omega)) (RA_cong (Nat.le_succ K) ⟨fun p hp => ?_, fun j hj => ?_⟩ R)
  · rw [hm.1 p (by omega), zp_n _ _ _ (by omega), hq p (by omega)]
  · rw [hm.2 j hj, zp_n _ _ _ (by omega), hq 65 (by omega)]
theorem zokq_e {σ : zs} {X : Option zO} {G : Int32 → zs → Option (Int32 × zs)} {g : zs → Option (Int32 × zs)} {H : Nat → zs → Option (Int32 × zs)} {K : Nat} (e : Nat) (k : Int32) (R : RA σ K) (hX : ∃ (σ1 : zs) (r : Int32), X = some (e + 1, r, σ1) ∧ zQx σ σ1) (hH : ∀ τ : zs, H (e + 1) τ = some (k, τ)) (hk : k ≠ 0) (hg : ∀ τ : zs, zVw σ τ → ∃ (τ' : zs) (r : Int32), g τ = some (r, τ') ∧ τ' 65 3 = k ∧ zMx τ τ') : zok (zc X G H) g (K + 1) := by
  obtain ⟨σ1, r, hX, hq⟩ := hX
  obtain ⟨τ', r', e', h3, hm⟩ := hg σ1 (fun p hp hq2 => hq p (by omega))
  exact zok_e hX (hH σ1) hk e' h3 (RA_q R hq hm)
theorem z_cmp {a b : Int32} (h : a = b) : lg_cmp a.toInt64 b.toInt64 = 0 := by
  subst h
  unfold lg_cmp
  rw [if_neg (by show ¬ a.toInt64 < a.toInt64; exact Int64.lt_irrefl), if_pos rfl]
theorem z_end {x : Option (Int32 × zs)} {g : zs → Option (Int32 × zs)} {K v : Nat} {K23 : zs → Int32 → Option (Int32 × zs)} {out : Option (Int32 × zs)} (h : zok x g K) (hk : ∀ σ', RA σ' K → K23 σ' (nI (v + 5)) = out) :
    zb x (fun r2 σ3 => zb (g σ3) (fun r5 σ6 => zb (f_X9_thrown σ6) (fun r8 σ9 => if r8 = r2 then (if r2 = 0 then (zg (zin (0 : Int32) 1) (if (lg_cmp (σ9 75 (0 : Int32).toNatClampNeg).toInt64 r5.toInt64) = 0 then (K23 σ9 (nI v + (5 : Int32))) else (some ((0 : Int32), σ9)))) else (K23 σ9 (nI v + (5 : Int32)))) else (some ((0 : Int32), σ9))))) = out := by
  obtain ⟨k, σ1, r, σ2, e1, e2, e3, e4, R⟩ := h
  have e5 : nI v + (5 : Int32) = nI (v + 5) := by rw [zk5, nI_add]
  rw [e1, zb_s, e2, zb_s, f_X9_thrown, zb_s, if_pos e3, e5]
  by_cases hk0 : k = 0
  · rw [if_pos hk0, zg_0 _ (by decide), zcl0, if_pos (z_cmp (e4 hk0))]
    exact hk σ2 R
  · rw [if_neg hk0]
    exact hk σ2 R
/-! arguments: in their range, or not -/
theorem c_sub_in (σ : zs) {s : Nat} (hs : s < 6) : f_X8_needSubject σ (nI s) = some (0, 0, σ) := by
  have e : ∀ s, s < 6 → ¬ nI s < 0 ∧ ¬ (6 : Int32) ≤ nI s := by decide +kernel
  rw [f_X8_needSubject, if_neg (e s hs).1, if_neg (e s hs).2]; rfl
theorem c_sub_out (σ : zs) {a : Int32} (h : a < 0 ∨ nI 6 ≤ a) : f_X8_needSubject σ a = some (1, 0, σ) := by
  rw [f_X8_needSubject]
  by_cases q : a < 0
  · rw [if_pos q]; rfl
  · rw [if_neg q, if_pos (show (6 : Int32) ≤ a from h.resolve_left q)]; rfl
theorem c_obj_in (σ : zs) {s : Nat} (hs : s < 12) : f_X8_needObject σ (nI s) = some (0, 0, σ) := by
  have e : ∀ s, s < 12 → ¬ nI s < 0 ∧ ¬ (12 : Int32) ≤ nI s := by decide +kernel
  rw [f_X8_needObject, if_neg (e s hs).1, if_neg (e s hs).2]; rfl
theorem c_obj_out (σ : zs) {a : Int32} (h : a < 0 ∨ nI 12 ≤ a) : f_X8_needObject σ a = some (1, 0, σ) := by
  rw [f_X8_needObject]
  by_cases q : a < 0
  · rw [if_pos q]; rfl
  · rw [if_neg q, if_pos (show (12 : Int32) ≤ a from h.resolve_left q)]; rfl
theorem c_tok_in {σ : zs} {n s : Nat} (hc : σ 2 0 = nI n) (hn : n ≤ 28) (hs : s < n) : f_X8_needToken σ (nI s) = some (0, 0, σ) := by
  rw [f_X8_needToken, if_neg (zlt0 (by omega)), hc, if_neg (znle hs (by omega))]; rfl
theorem c_tok_out {σ : zs} {n : Nat} (hc : σ 2 0 = nI n) {a : Int32} (h : a < 0 ∨ nI n ≤ a) : f_X8_needToken σ a = some (1, 0, σ) := by
  rw [f_X8_needToken, hc]
  by_cases q : a < 0
  · rw [if_pos q]; rfl
  · rw [if_neg q, if_pos (show _ ≤ a from h.resolve_left q)]; rfl
theorem c_pair_in {σ : zs} {n s : Nat} (hc : σ 14 0 = nI n) (hn : n ≤ 4) (hs : s < n) : f_X8_needPair σ (nI s) = some (0, 0, σ) := by
  rw [f_X8_needPair, if_neg (zlt0 (by omega)), hc, if_neg (znle hs (by omega))]; rfl
theorem c_pair_out {σ : zs} {n : Nat} (hc : σ 14 0 = nI n) {a : Int32} (h : a < 0 ∨ nI n ≤ a) : f_X8_needPair σ a = some (1, 0, σ) := by
  rw [f_X8_needPair, hc]
  by_cases q : a < 0
  · rw [if_pos q]; rfl
  · rw [if_neg q, if_pos (show _ ≤ a from h.resolve_left q)]; rfl
theorem c_box_in {σ : zs} {n s : Nat} (hc : σ 14 3 = nI n) (hn : n ≤ 12) (hs : s < n) : f_X8_needBox σ (nI s) = some (0, 0, σ) := by
  rw [f_X8_needBox, if_neg (zlt0 (by omega)), hc, if_neg (znle hs (by omega))]; rfl
theorem c_box_out {σ : zs} {n : Nat} (hc : σ 14 3 = nI n) {a : Int32} (h : a < 0 ∨ nI n ≤ a) : f_X8_needBox σ a = some (1, 0, σ) := by
  rw [f_X8_needBox, hc]
  by_cases q : a < 0
  · rw [if_pos q]; rfl
  · rw [if_neg q, if_pos (show _ ≤ a from h.resolve_left q)]; rfl
/-- isIn(v, 0, n - 1), n as a number that was computed -/
theorem m_isIn_in (σ : zs) {lo hi a : Int32} (h1 : lo ≤ a) (h2 : a ≤ hi) : f_X9_isIn σ a lo hi = some (1, σ) := by
  rw [f_X9_isIn, if_neg (fun q => zle_nlt.mp h1 q), if_neg (fun q => zle_nlt.mp h2 q)]
theorem m_isIn_out (σ : zs) {lo hi a : Int32} (h : a < lo ∨ hi < a) : f_X9_isIn σ a lo hi = some (0, σ) := by
  rw [f_X9_isIn]
  by_cases q : a < lo
  · rw [if_pos q]
  · rw [if_neg q, if_pos (h.resolve_left q)]
theorem m_in (σ : zs) {n s : Nat} {hi : Int32} (hn : n < 2147483648) (hh : hi = nI n - 1) (hs : s < n) : f_X9_isIn σ (nI s) 0 hi = some (1, σ) := by
  subst hh
  obtain ⟨k, rfl⟩ : ∃ k, n = k + 1 := ⟨n - 1, by omega⟩
  rw [nI_pred]
  exact m_isIn_in σ (nI_pos' (by omega)) (nI_le (by omega) (by omega))
theorem m_out (σ : zs) {n : Nat} {hi a : Int32} (hn : n < 2147483648) (hh : hi = nI n - 1) (h : a < 0 ∨ nI n ≤ a) : f_X9_isIn σ a 0 hi = some (0, σ) := by
  subst hh
  by_cases q : a < 0
  · exact m_isIn_out σ (Or.inl q)
  · have h2 := h.resolve_left q
    obtain ⟨j, hj, rfl⟩ := nI_of q
    rw [nI_leI hn hj] at h2
    cases n with
    | zero =>
      refine m_isIn_out σ (Or.inr ?_)
      have e : nI 0 - 1 = -1 := by decide
      rw [e, Int32.lt_iff_toInt_lt, nI_toInt hj]
      have : (-1 : Int32).toInt = -1 := by decide
      omega
    | succ k => rw [nI_pred]; exact m_isIn_out σ (Or.inr (nI_lt (by omega) hj))
