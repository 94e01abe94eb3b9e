/-! what the reference's own methods answer -/
theorem zl2_anyb {o : Type} {f : (zs → Int32 → Int32 → Option o) → zs → Int32 → Int32 → Option o} {σ : zs} {a : Int32} {N : Nat} (b : Nat → Int32) (p : Nat → Bool) {x y : Option o}
    (hs : ∀ i, i < N → ∀ rec, f rec σ a (b i) = if p i then x else rec σ a (b (i + 1))) (he : ∀ rec, f rec σ a (b N) = y) (hN : N < 1000) : zlp2 f 1000 σ a (b 0) = if zany p N then x else y := by
  rcases zfirst p N with ⟨k, hk, hp, hq⟩ | hq
  · rw [if_pos ((zany_iff _ _).mpr ⟨k, hk, hp⟩)]
    refine zlr2 k (fun _ => σ) (fun _ => a) b (fun i hi rec => ?_) (fun rec => ?_) 1000 (by omega)
    · rw [hs i (by omega), if_neg (by rw [hq i hi]; decide)]
    · rw [hs k hk, if_pos hp]
  · rw [if_neg (by rw [zany_no.mpr hq]; decide)]
    refine zlr2 N (fun _ => σ) (fun _ => a) b (fun i hi rec => ?_) (fun rec => he rec) 1000 (by omega)
    rw [hs i hi, if_neg (by rw [hq i hi]; decide)]
/-- the cells of a token, as the reference has them -/
theorem RT_obj {c : zs} {m : Nat → Int32} {K t : Nat} (h : RTk c m K t) : m (51 + t) = c 3 t ∧ zr (c 3 t) 12 := h.1
theorem RT_hold {c : zs} {m : Nat → Int32} {K t : Nat} (h : RTk c m K t) : m (107 + t) = c 6 t ∧ zr (c 6 t) 64 := h.2.2.2.2.1
theorem RT_use {c : zs} {m : Nat → Int32} {K t : Nat} (h : RTk c m K t) : m (163 + t) = c 7 t ∧ zr (c 7 t) (K + 1) := h.2.2.2.2.2.1
theorem RT_rev {c : zs} {m : Nat → Int32} {K t : Nat} (h : RTk c m K t) : m (135 + t) = c 8 t ∧ (c 8 t = -1 ∨ zr (c 8 t) 6) := h.2.2.2.2.2.2.1
theorem RT_cav {c : zs} {m : Nat → Int32} {K t : Nat} (h : RTk c m K t) : m (191 + t) = c 9 t ∧ zr (c 9 t) 5 := h.2.2.2.2.2.2.2.1
theorem RT_par {c : zs} {m : Nat → Int32} {K t : Nat} (h : RTk c m K t) : m (79 + t) = zpa c t := by
  have hl := (zln_eq h).2.1
  unfold zpa
  by_cases q : zln c t ≤ 1
  · rw [if_pos q]; exact h.2.2.2.1.1 (by omega)
  · rw [if_neg q]; exact (h.2.2.2.1.2 (by omega)).1
theorem z_neg {x : Int32} (h : x = -1 ∨ zr x 6) : (x < 0) = (x = -1) := by
  apply propext
  rcases h with rfl | ⟨v, h1, h2, rfl⟩
  · exact ⟨fun _ => rfl, fun _ => by decide⟩
  · constructor
    · intro q; exact absurd q (zlt0 h2)
    · intro q
      have := zlt0 h2
      rw [q] at this; exact absurd (by decide) this
theorem z_m1 {t : Nat} (h : t < 2147483648) : nI t ≠ -1 := by
  intro q
  have := zlt0 h
  rw [q] at this; exact absurd (by decide) this
/-- a step of the road from a token to its root -/
theorem z_road {c : zs} {m : Nat → Int32} {K n : Nat} (hn : n ≤ 28) (h : ∀ t, t < n → RTk c m K t) {t : Nat} (ht : t < n) {i : Nat} (hi : i < zln c t) : ∃ l, l = zch c t (zln c t - 1 - i) ∧ l < n ∧ l < 28 ∧ zup c t i = nI l ∧ m (79 + l) = zup c t (i + 1) := by
  have h1 := zch_b hn h ht (k := zln c t - 1 - i) (by omega)
  exact ⟨_, rfl, h1.1, h1.2, zup_in hi, zup_s h ht hi⟩
theorem zany_bl {c : zs} {m : Nat → Int32} {K n : Nat} (h : ∀ t, t < n → RTk c m K t) {a b : Nat} (ha : a < n) (hb : b < n) : zany (fun k => zch c a k == b) (zln c a) = zbl c a b := by
  have hlb := (zln_eq (h b hb)).2.1
  unfold zbl
  cases e : zany (fun k => zch c a k == b) (zln c a) with
  | true =>
    obtain ⟨k, hk, hp⟩ := (zany_iff _ _).mp e
    have hp' : zch c a k = b := by simpa using hp
    have h2 := (zpre h a ha k hk).2.1
    rw [hp'] at h2
    rw [decide_eq_true (by omega), show zln c b - 1 = k by omega, hp']; simp
  | false =>
    have h2 := zany_no.mp e
    by_cases q : zln c b ≤ zln c a
    · have := h2 (zln c b - 1) (by omega)
      rw [decide_eq_true q, this]; rfl
    · rw [decide_eq_false q]; rfl
theorem zed_cnt {c : zs} {t : Nat} : zed c t = true ↔ 0 < zcnt (fun k => c 8 (zch c t k) != -1) (zln c t) := by rw [zcnt_pos]; exact Iff.rfl
section PG
variable {τ c : zs} {K n : Nat}
theorem m_sub_in (τ : zs) {s : Nat} (hs : s < 6) : f_X9_isSubject τ (nI s) = some (1, τ) := by
  rw [f_X9_isSubject, m_in τ (n := 6) (by decide) (by decide) hs]; rfl
theorem m_sub_out (τ : zs) {a : Int32} (h : a < 0 ∨ nI 6 ≤ a) : f_X9_isSubject τ a = some (0, τ) := by
  rw [f_X9_isSubject, m_out τ (n := 6) (by decide) (by decide) h]; rfl
theorem m_obj_in (τ : zs) {s : Nat} (hs : s < 12) : f_X9_isObject τ (nI s) = some (1, τ) := by
  rw [f_X9_isObject, m_in τ (n := 12) (by decide) (by decide) hs]; rfl
theorem m_obj_out (τ : zs) {a : Int32} (h : a < 0 ∨ nI 12 ≤ a) : f_X9_isObject τ a = some (0, τ) := by
  rw [f_X9_isObject, m_out τ (n := 12) (by decide) (by decide) h]; rfl
theorem zG0 {α : Type} (t : Option α) : zg (zin (0 : Int32) 628) t = t := by rw [show zin (0 : Int32) 628 = true from by decide +kernel]; rfl
theorem zG1 {α : Type} (t : Option α) : zg (zin (1 : Int32) 628) t = t := by rw [show zin (1 : Int32) 628 = true from by decide +kernel]; rfl
theorem zG2 {α : Type} (t : Option α) : zg (zin (2 : Int32) 628) t = t := by rw [show zin (2 : Int32) 628 = true from by decide +kernel]; rfl
theorem zG3 {α : Type} (t : Option α) : zg (zin (3 : Int32) 628) t = t := by rw [show zin (3 : Int32) 628 = true from by decide +kernel]; rfl
theorem zG4 {α : Type} (t : Option α) : zg (zin (4 : Int32) 628) t = t := by rw [show zin (4 : Int32) 628 = true from by decide +kernel]; rfl
theorem zG5 {α : Type} (t : Option α) : zg (zin (5 : Int32) 628) t = t := by rw [show zin (5 : Int32) 628 = true from by decide +kernel]; rfl
theorem zG6 {α : Type} (t : Option α) : zg (zin (6 : Int32) 628) t = t := by rw [show zin (6 : Int32) 628 = true from by decide +kernel]; rfl
theorem zG7 {α : Type} (t : Option α) : zg (zin (7 : Int32) 628) t = t := by rw [show zin (7 : Int32) 628 = true from by decide +kernel]; rfl
theorem zG599 {α : Type} (t : Option α) : zg (zin (599 : Int32) 628) t = t := by rw [show zin (599 : Int32) 628 = true from by decide +kernel]; rfl
theorem zC0 : (0 : Int32).toNatClampNeg = 0 := rfl
theorem zC1 : (1 : Int32).toNatClampNeg = 1 := rfl
theorem zC2 : (2 : Int32).toNatClampNeg = 2 := rfl
theorem zC3 : (3 : Int32).toNatClampNeg = 3 := rfl
theorem zC4 : (4 : Int32).toNatClampNeg = 4 := rfl
theorem zC5 : (5 : Int32).toNatClampNeg = 5 := rfl
theorem zC6 : (6 : Int32).toNatClampNeg = 6 := rfl
theorem zC7 : (7 : Int32).toNatClampNeg = 7 := rfl
theorem zC8 : (8 : Int32).toNatClampNeg = 8 := rfl
theorem zC9 : (9 : Int32).toNatClampNeg = 9 := rfl
theorem zC599 : (599 : Int32).toNatClampNeg = 599 := rfl
theorem m_tok_in {τ : zs} {n s : Nat} (hc : τ 66 1 = nI n) (hn : n ≤ 28) (hs : s < n) : f_X9_isToken τ (nI s) = some (1, τ) := by
  rw [f_X9_isToken, zG1, zC1, m_in τ (n := n) (by omega) (by rw [hc]) hs]; rfl
theorem m_tok_out {τ : zs} {n : Nat} (hc : τ 66 1 = nI n) (hn : n ≤ 28) {a : Int32} (h : a < 0 ∨ nI n ≤ a) : f_X9_isToken τ a = some (0, τ) := by
  rw [f_X9_isToken, zG1, zC1, m_out τ (n := n) (by omega) (by rw [hc]) h]; rfl
theorem m_pair_in {τ : zs} {n s : Nat} (hc : τ 66 2 = nI n) (hn : n ≤ 4) (hs : s < n) : f_X9_isPair τ (nI s) = some (1, τ) := by
  rw [f_X9_isPair, zG2, zC2, m_in τ (n := n) (by omega) (by rw [hc]) hs]; rfl
theorem m_pair_out {τ : zs} {n : Nat} (hc : τ 66 2 = nI n) (hn : n ≤ 4) {a : Int32} (h : a < 0 ∨ nI n ≤ a) : f_X9_isPair τ a = some (0, τ) := by
  rw [f_X9_isPair, zG2, zC2, m_out τ (n := n) (by omega) (by rw [hc]) h]; rfl
theorem m_box_in {τ : zs} {n s : Nat} (hc : τ 66 3 = nI n) (hn : n ≤ 12) (hs : s < n) : f_X9_isBox τ (nI s) = some (1, τ) := by
  rw [f_X9_isBox, zG3, zC3, m_in τ (n := n) (by omega) (by rw [hc]) hs]; rfl
theorem m_box_out {τ : zs} {n : Nat} (hc : τ 66 3 = nI n) (hn : n ≤ 12) {a : Int32} (h : a < 0 ∨ nI n ≤ a) : f_X9_isBox τ a = some (0, τ) := by
  rw [f_X9_isBox, zG3, zC3, m_out τ (n := n) (by omega) (by rw [hc]) h]; rfl
theorem m_part (τ : zs) {t q w : Nat} (ht : t < 28) (hq : q < 4) (hw : w < 3) : f_X9_part τ (nI t) (nI q) (nI w) = some (τ 66 (219 + 3 * (4 * t + q) + w), τ) := by
  rw [f_X9_part]
  simp (disch := omega) only [zk219, zk3, zk4, nI_mul, nI_add, zg_in, zcl]
theorem m_part0 (τ : zs) {t q : Nat} (ht : t < 28) (hq : q < 4) : f_X9_part τ (nI t) (nI q) (0 : Int32) = some (τ 66 (219 + 3 * (4 * t + q) + 0), τ) := m_part τ ht hq (w := 0) (by decide)
theorem m_part1 (τ : zs) {t q : Nat} (ht : t < 28) (hq : q < 4) : f_X9_part τ (nI t) (nI q) (1 : Int32) = some (τ 66 (219 + 3 * (4 * t + q) + 1), τ) := m_part τ ht hq (w := 1) (by decide)
theorem m_part2 (τ : zs) {t q : Nat} (ht : t < 28) (hq : q < 4) : f_X9_part τ (nI t) (nI q) (2 : Int32) = some (τ 66 (219 + 3 * (4 * t + q) + 2), τ) := m_part τ ht hq (w := 2) (by decide)
theorem m_revokedIn (hn : n ≤ 28) (h : ∀ t, t < n → RTk c (τ 66) K t) {t : Nat} (ht : t < n) : f_X9_revokedIn τ (nI t) = some (nI (zcnt (fun k => c 8 (zch c t k) != -1) (zln c t)), τ) := by
  obtain ⟨hl, hl1, hl7⟩ := zln_eq (h t ht)
  rw [f_X9_revokedIn, ← zup_0 (h t ht), zi0]
  rw [← zcnt_rev]
  refine zlr2 (zln c t) (fun _ => τ) (fun i => nI (zcnt (fun k => c 8 (zch c t (zln c t - 1 - k)) != -1) i)) (zup c t) (fun i hi rec => ?_) (fun rec => ?_) 1000 (by omega)
  · obtain ⟨l, e1, e2, e3, e4, e5⟩ := z_road hn h ht hi
    obtain ⟨r1, r2⟩ := RT_rev (h l e2)
    rw [e4, f_X9_revokedIn_4, if_neg (zlt0 (by omega))]
    simp (disch := omega) only [zk135, nI_add, zg_in, zcl, r1, f_X9_revokedIn_27, zk79, e5, zcnt, ← e1]
    have zn := z_neg r2
    by_cases q : c 8 l = -1
    · rw [if_pos (show c 8 l < 0 by rw [zn]; exact q), if_neg (by simp [q])]; simp
    · rw [if_neg (show ¬ c 8 l < 0 by rw [zn]; exact q), if_pos (by simp [q]), nI_1]
  · rw [zup_end, f_X9_revokedIn_4, if_pos (by decide)]
theorem m_isBelow (hn : n ≤ 28) (h : ∀ t, t < n → RTk c (τ 66) K t) {a b : Nat} (ha : a < n) (hb : b < n) : f_X9_isBelow τ (nI a) (nI b) = some (bI (zbl c a b), τ) := by
  obtain ⟨hl, hl1, hl7⟩ := zln_eq (h a ha)
  rw [f_X9_isBelow, ← zup_0 (h a ha)]
  refine Eq.trans (zl2_anyb (zup c a) (fun k => zch c a (zln c a - 1 - k) == b) (N := zln c a) (x := some (1, τ)) (y := some (0, τ)) (fun i hi rec => ?_) (fun rec => ?_) (by omega)) ?_
  · obtain ⟨l, e1, e2, e3, e4, e5⟩ := z_road hn h ha hi
    rw [e4, f_X9_isBelow_2, if_neg (zlt0 (by omega))]
    simp (disch := omega) only [nI_add, zg_in, zcl, zk79, e5, ← e1, znI_inj, beq_iff_eq]
  · rw [zup_end, f_X9_isBelow_2, if_pos (by decide)]
  · rw [zany_rev (fun k => zch c a k == b), zany_bl h ha hb]
    cases zbl c a b <;> rfl
def zQch (τ c : zs) (t : Nat) (x : Option (Int32 × zs)) : Prop := ∃ τ' : zs, x = some (nI (zln c t), τ') ∧ (∀ p, p ≠ 69 → τ' p = τ p) ∧ ∀ k, k < zln c t → τ' 69 k = nI (zch c t k)
theorem m_chainOf (hn : n ≤ 28) (h : ∀ t, t < n → RTk c (τ 66) K t) {t : Nat} (ht : t < n) : zQch τ c t (f_X9_chainOf τ (nI t)) := by
  obtain ⟨hl, hl1, hl7⟩ := zln_eq (h t ht)
  have e : f_X9_chainOf τ (nI t) = zlp3 f_X9_chainOf_29 1000 τ (nI (zln c t)) (nI (zln c t)) (nI t) := by
    rw [f_X9_chainOf]
    have e0 := zup_0 (h t ht)
    refine Eq.trans (b := zlp3 f_X9_chainOf_4 1000 τ (nI t) (nI 0) (zup c t 0)) (by rw [e0]; rfl) ?_
    refine zlr3 (zln c t) (fun _ => τ) (fun _ => nI t) nI (zup c t) (fun i hi rec => ?_) (fun rec => ?_) 1000 (by omega)
    · obtain ⟨l, e1, e2, e3, e4, e5⟩ := z_road hn h ht hi
      rw [e4, f_X9_chainOf_4, if_neg (zlt0 (by omega))]
      simp (disch := omega) only [nI_add, zg_in, zcl, zk79, e5, nI_1]
    · rw [zup_end, f_X9_chainOf_4, if_pos (by decide)]
  rw [e]
  refine zli3 (Q := zQch τ c t) (zln c t) (fun i s a b d => a = nI (zln c t) ∧ b = nI (zln c t - i) ∧ d = zup c t i ∧ (∀ p, p ≠ 69 → s p = τ p) ∧ ∀ k, zln c t - i ≤ k → k < zln c t → s 69 k = nI (zch c t k)) ?_ ?_ 1000 (by omega) ⟨rfl, rfl, (zup_0 (h t ht)).symm, fun _ _ => rfl, fun k h1 h2 => absurd h2 (by omega)⟩
  · rintro i hi s a b d ⟨rfl, rfl, rfl, hf, hv⟩ rec kk
    obtain ⟨l, e1, e2, e3, e4, e5⟩ := z_road hn h ht hi
    rw [e4, f_X9_chainOf_29, if_neg (zlt0 (by omega)), show zln c t - i = (zln c t - (i + 1)) + 1 by omega, pk_m1]
    simp (disch := omega) only [nI_add, zg_in, zcl, zk79]
    refine kk _ _ _ _ ⟨rfl, rfl, ?_, fun p hp => by rw [zp_n _ _ _ hp, hf p hp], fun k h1 h2 => ?_⟩
    · rw [zp_n _ _ _ (by decide), hf 66 (by decide)]; exact e5
    · by_cases q : k = zln c t - (i + 1)
      · subst q
        rw [zp_e, e1]; congr 2; omega
      · rw [zp_o _ _ q]; exact hv k (by omega) h2
  · rintro s a b d ⟨rfl, rfl, rfl, hf, hv⟩ rec
    rw [zup_end, f_X9_chainOf_29, if_pos (by decide)]
    exact ⟨s, rfl, hf, fun k hk => hv k (by omega) hk⟩
theorem zQch_s {τ c : zs} {t : Nat} {x : Option (Int32 × zs)} (h : zQch τ c t x) {σ : zs} (hs : ∀ p, p ≠ 69 → τ p = σ p) : zQch σ c t x := by
  obtain ⟨τ', h1, h2, h3⟩ := h
  exact ⟨τ', h1, fun p hp => (h2 p hp).trans (hs p hp), h3⟩
theorem m_isAhead (hn : n ≤ 28) (h : ∀ t, t < n → RTk c (τ 66) K t) {a b : Nat} (ha : a < n) (hb : b < n) : ∃ τ' : zs, f_X9_isAhead τ (nI a) (nI b) = some (bI (zcb c a b), τ') ∧ ∀ p, p ≠ 69 → τ' p = τ p := by
  obtain ⟨hla, hla1, hla7⟩ := zln_eq (h a ha)
  obtain ⟨hlb, hlb1, hlb7⟩ := zln_eq (h b hb)
  have oa := (RT_obj (h a ha)).1
  have ob := (RT_obj (h b hb)).1
  rw [f_X9_isAhead]
  simp (disch := omega) only [nI_add, zg_in, zcl, zk51, oa, ob]
  unfold zcb
  by_cases q : c 3 a = c 3 b
  · rw [if_pos q, if_pos q]
    obtain ⟨τ1, g1, g2, g3⟩ := m_chainOf hn h ha
    rw [g1, zb_s]
    have h1 : ∀ t, t < n → RTk c (τ1 66) K t := by rw [g2 66 (by decide)]; exact h
    obtain ⟨τ2, k1, k2, k3⟩ := m_chainOf hn h1 hb
    rw [k1, zb_s]
    simp (disch := omega) only [znI_inj, znI_le]
    refine ⟨τ2, ?_, fun p hp => (k2 p hp).trans (g2 p hp)⟩
    by_cases w : zln c a = zln c b
    · rw [if_pos w, if_pos w]
      by_cases u : b ≤ a
      · rw [if_pos u, decide_eq_false (by omega)]; rfl
      · rw [if_neg u, decide_eq_true (by omega)]; rfl
    · rw [if_neg w, if_neg w]
      by_cases u : zln c a ≤ zln c b
      · rw [if_pos u, decide_eq_false (by omega)]; rfl
      · rw [if_neg u, decide_eq_true (by omega)]; rfl
  · rw [if_neg q, if_neg q]
    refine ⟨τ, ?_, fun _ _ => rfl⟩
    by_cases u : c 3 a < c 3 b
    · rw [if_neg (fun z => zle_nlt.mp z u), decide_eq_true u]; rfl
    · rw [if_pos (zle_nlt.mpr u), decide_eq_false u]; rfl
theorem m_heldBy (hn : n ≤ 28) (hc : τ 66 1 = nI n) (h : ∀ t, t < n → RTk c (τ 66) K t) {s : Nat} (hs : s < 6) : f_X9_heldBy τ (nI s) = some (zset (fun t => zbit (c 6 t) s) n, τ) := by
  rw [f_X9_heldBy, zi0]
  refine Eq.trans (zl3_fold (N := n) (fun v i => if zbit (c 6 i) s then v ||| (1 <<< (nI i &&& 31)) else v) (out := fun v => some (v, τ)) (fun i hi rec v => ?_) (fun rec v => ?_) (by omega)) (by rw [show nI 0 = 0 from rfl, zset_fold])
  · have hh := (RT_hold (h i hi)).1
    rw [f_X9_heldBy_4, zG1, zC1]
    simp (disch := omega) only [hc, znI_le, nI_add, zg_in, zcl, zk107, hh]
    rw [if_neg (by omega), p_has _ _ (show s < 32 by omega), zb_s, bI_0]
    simp only [f_X9_heldBy_38, nI_1, zor0]
    cases zbit (c 6 i) s <;> rfl
  · rw [f_X9_heldBy_4, zG1, zC1]
    simp (disch := omega) only [hc, znI_le]
    rw [if_pos (Nat.le_refl _)]
theorem m_children (hn : n ≤ 28) (hc : τ 66 1 = nI n) (h : ∀ t, t < n → RTk c (τ 66) K t) (a : Int32) : f_X9_children τ a = some (nI (zcnt (fun t => decide (zpa c t = a)) n), τ) := by
  rw [f_X9_children, zi0]
  refine Eq.trans (zl3_fold (N := n) (fun v i => if decide (zpa c i = a) then v + 1 else v) (out := fun v => some (v, τ)) (fun i hi rec v => ?_) (fun rec v => ?_) (by omega)) (by rw [show nI 0 = 0 from rfl, zcnt_fold])
  · have hh := RT_par (h i hi)
    rw [f_X9_children_4, zG1, zC1]
    simp (disch := omega) only [hc, znI_le, nI_add, zg_in, zcl, zk79, hh, f_X9_children_33, nI_1]
    rw [if_neg (by omega)]
    by_cases q : zpa c i = a
    · rw [if_pos q, decide_eq_true q, if_pos rfl]
    · rw [if_neg q, decide_eq_false q, if_neg (by decide)]; simp
  · rw [f_X9_children_4, zG1, zC1]
    simp (disch := omega) only [hc, znI_le]
    rw [if_pos (Nat.le_refl _)]
theorem m_whole (hn : n ≤ 28) (hc : τ 66 1 = nI n) (h : ∀ t, t < n → RTk c (τ 66) K t) : f_X9_whole τ = some (nI (zcnt (fun t => !zed c t) n), τ) := by
  rw [f_X9_whole, zi0]
  refine Eq.trans (zl2_fold (N := n) (fun v i => if !zed c i then v + 1 else v) (out := fun v => some (v, τ)) (fun i hi rec v => ?_) (fun rec v => ?_) (by omega)) (by rw [show nI 0 = 0 from rfl, zcnt_fold])
  · have hl7 := (zln_eq (h i hi)).2.2
    have hcl := zcnt_le (fun k => c 8 (zch c i k) != -1) (zln c i)
    rw [f_X9_whole_4, zG1, zC1]
    simp (disch := omega) only [hc, znI_le]
    rw [if_neg (by omega), m_revokedIn hn h hi, zb_s, zi0]
    simp (disch := omega) only [znI_inj, f_X9_whole_28, nI_1]
    have hz := zed_cnt (c := c) (t := i)
    cases q : zed c i with
    | true =>
      rw [if_neg (by have := hz.mp q; omega)]; simp [nI_0]
    | false =>
      rw [if_pos (by have hq : ¬ 0 < zcnt (fun k => c 8 (zch c i k) != -1) (zln c i) := fun x => by rw [hz.mpr x] at q; cases q
                     omega)]; simp
  · rw [f_X9_whole_4, zG1, zC1]
    simp (disch := omega) only [hc, znI_le]
    rw [if_pos (Nat.le_refl _)]
end PG
