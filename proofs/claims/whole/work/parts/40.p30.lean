/-! texts: all of a text -/
def zcons (x : zcav) (o : Nat ⊕ List zcav) : Nat ⊕ List zcav := match o with
  | .inl e => .inl e
  | .inr xs => .inr (x :: xs)
def zall (g : Nat → Int32) (w : Nat) : Nat → Nat → Nat ⊕ List zcav
  | 0, a => .inl a
  | d + 1, a => match zpc g w a with
    | .inl e => .inl e
    | .inr y => zcons y.2 (if d ≠ 0 ∧ y.1 < w ∧ g y.1 = 59 then zall g w d (y.1 + 1) else if y.1 < w then .inl y.1 else .inr [])
def zrest (g : Nat → Int32) (w d p : Nat) : Nat ⊕ List zcav := if d ≠ 0 ∧ p < w ∧ g p = 59 then zall g w d (p + 1) else if p < w then .inl p else .inr []
theorem zall_l {g : Nat → Int32} {w d a e : Nat} (h : zpc g w a = .inl e) : zall g w (d + 1) a = .inl e := by simp only [zall, h]
theorem zall_r {g : Nat → Int32} {w d a p : Nat} {x : zcav} (h : zpc g w a = .inr (p, x)) : zall g w (d + 1) a = zcons x (zrest g w d p) := by simp only [zall, h, zrest]
def z00 : zcav := (0, 0, 0)
/-- what a text that was read is like -/
def zaok (w d : Nat) (o : Nat ⊕ List zcav) : Prop := match o with
  | .inl e => e ≤ w
  | .inr xs => xs.length ≤ d ∧ ∀ i, i < xs.length → zcok (xs.getD i z00)
theorem zcons_ok {w d : Nat} {x : zcav} {o : Nat ⊕ List zcav} (hx : zcok x) (h : zaok w d o) : zaok w (d + 1) (zcons x o) := by
  rcases o with e | xs
  · exact h
  · refine ⟨Nat.succ_le_succ h.1, fun i hi => ?_⟩
    cases i with
    | zero => exact hx
    | succ i => exact h.2 i (Nat.lt_of_succ_lt_succ hi)
theorem zall_ok {g : Nat → Int32} {w : Nat} (hg : zsg g w) : ∀ d a, a ≤ w → zaok w d (zall g w d a)
  | 0, a, ha => ha
  | d + 1, a, ha => by
    have hp := zpc_ok hg ha
    cases ho : zpc g w a with
    | inl e => rw [ho] at hp; rw [zall_l ho]; exact hp
    | inr y =>
      obtain ⟨p, x⟩ := y
      rw [ho] at hp
      rw [zall_r ho]
      refine zcons_ok hp.2 ?_
      unfold zrest
      by_cases h : d ≠ 0 ∧ p < w ∧ g p = 59
      · rw [if_pos h]; exact zall_ok hg d (p + 1) (by omega)
      · rw [if_neg h]
        by_cases q : p < w
        · rw [if_pos q]; exact hp.1
        · rw [if_neg q]; exact ⟨Nat.zero_le _, fun i hi => absurd hi (Nat.not_lt_zero i)⟩
section QC
variable {s τ : zs} {g : Nat → Int32} {w : Nat}
def zQra (s : zs) (w c : Nat) (o : Nat ⊕ List zcav) (x : Option (Int32 × zs)) : Prop := ∃ s' : zs, x = some (0, s') ∧ (∀ p, p ≠ 52 → p ≠ 54 → p ≠ 55 → p ≠ 56 → s' p = s p) ∧ s' 52 1 = nI w ∧ (∀ i, i < c → s' 54 i = s 54 i ∧ s' 55 i = s 55 i ∧ s' 56 i = s 56 i) ∧ match o with
  | .inl e => s' 52 2 = nI e
  | .inr xs => s' 52 2 = -1 ∧ s' 52 3 = nI (c + xs.length) ∧ ∀ i, i < xs.length → s' 54 (c + i) = nI (xs.getD i z00).1 ∧ s' 55 (c + i) = nI (xs.getD i z00).2.1 ∧ s' 56 (c + i) = (xs.getD i z00).2.2
theorem zQra_cons {s2 : zs} {c k v : Nat} {y : Int32} {o : Nat ⊕ List zcav} {x : Option (Int32 × zs)} (f : ∀ p, p ≠ 52 → p ≠ 54 → p ≠ 55 → p ≠ 56 → s2 p = s p) (fi : ∀ i, i < c → s2 54 i = s 54 i ∧ s2 55 i = s 55 i ∧ s2 56 i = s 56 i) (h4 : s2 54 c = nI k) (h5 : s2 55 c = nI v) (h6 : s2 56 c = y) (h : zQra s2 w (c + 1) o x) : zQra s w c (zcons (k, v, y) o) x := by
  obtain ⟨s', a1, a2, a3, a4, a5⟩ := h
  refine ⟨s', a1, fun p p1 p2 p3 p4 => (a2 p p1 p2 p3 p4).trans (f p p1 p2 p3 p4), a3, fun i hi => ?_, ?_⟩
  · obtain ⟨b1, b2, b3⟩ := a4 i (by omega)
    obtain ⟨d1, d2, d3⟩ := fi i hi
    exact ⟨b1.trans d1, b2.trans d2, b3.trans d3⟩
  · rcases o with e | xs
    · exact a5
    · obtain ⟨e1, e2, e3⟩ := a5
      refine ⟨e1, ?_, fun i hi => ?_⟩
      · rw [e2]
        show nI (c + 1 + xs.length) = nI (c + (xs.length + 1))
        congr 1; omega
      · cases i with
        | zero =>
          obtain ⟨b1, b2, b3⟩ := a4 c (by omega)
          show s' 54 c = nI k ∧ s' 55 c = nI v ∧ s' 56 c = y
          exact ⟨b1.trans h4, b2.trans h5, b3.trans h6⟩
        | succ i =>
          have := e3 i (Nat.lt_of_succ_lt_succ hi)
          rw [show c + 1 + i = c + (i + 1) by omega] at this
          exact this
theorem p_ra0 (rec : zs → Int32 → Int32 → Option (Int32 × zs)) (s : zs) (v : Int32) : f_X1_readAll_19 rec s 0 v = f_X1_readAll_83 s := by
  rw [f_X1_readAll_19]
  split
  · rfl
  · rw [if_pos rfl]
theorem p_ra83 {p : Nat} {c : Nat} (hw : w ≤ 40) (hp : p ≤ w) (T : zTx s g w p (-1)) (h3 : s 52 3 = nI c) : zQra s w c (if p < w then .inl p else .inr []) (f_X1_readAll_83 s) := by
  rw [f_X1_readAll_83, T.2.2.1, if_pos rfl, T.1, T.2.1]
  by_cases h : p < w
  · rw [if_pos h, if_neg (by rw [znI_le (by omega) (by omega)]; omega)]
    exact ⟨_, rfl, fun p p1 _ _ _ => zp_n _ _ _ p1, by rw [zp_o _ _ (by decide)]; exact T.1, fun i _ => ⟨by rw [zp_n _ _ _ (by decide)], by rw [zp_n _ _ _ (by decide)], by rw [zp_n _ _ _ (by decide)]⟩, zp_e _ _ _ _⟩
  · rw [if_neg h, if_pos (by rw [znI_le (by omega) (by omega)]; omega)]
    exact ⟨s, rfl, fun _ _ _ _ _ => rfl, T.1, fun _ _ => ⟨rfl, rfl, rfl⟩, T.2.2.1, h3, fun i hi => absurd hi (Nat.not_lt_zero i)⟩
theorem p_raloop (hg : zsg g w) (hw : w ≤ 40) : ∀ d c a (s : zs) fuel, c + d = 4 → d ≠ 0 → a ≤ w → zTx s g w a (-1) → d < fuel → zQra s w c (zall g w d a) (zlp2 f_X1_readAll_19 fuel s 1 (nI c)) := by
  intro d
  induction d with
  | zero => intro c a s fuel _ h0; exact absurd rfl h0
  | succ d ih =>
    intro c a s fuel hcd _ ha T hf
    cases fuel with
    | zero => omega
    | succ fuel =>
      cases fuel with
      | zero => omega
      | succ fuel =>
        have hc : c < 4 := by omega
        obtain ⟨s2, g1, g2, g3, g4, g5⟩ := p_readCaveat hg hw ha T hc
        have hok := zpc_ok hg ha
        show zQra s w c (zall g w (d + 1) a) (f_X1_readAll_19 (zlp2 f_X1_readAll_19 (fuel + 1)) s 1 (nI c))
        rw [f_X1_readAll_19, if_neg (by rw [zk4, znI_le (by omega) (by omega)]; omega), if_neg (show ¬ (1 : Int32) = 0 by decide), g1, zb_s]
        have tail0 : ∀ (s3 : zs), f_X1_readAll_62 (zlp2 f_X1_readAll_19 (fuel + 1)) s3 (nI c) 0 = f_X1_readAll_83 s3 := by
          intro s3
          rw [f_X1_readAll_62, if_pos rfl]
          exact p_ra0 _ _ _
        cases ho : zpc g w a with
        | inl e =>
          rw [ho] at g5 hok
          have g5' : s2 52 2 = nI e := g5
          have hok' : e ≤ w := hok
          rw [zall_l ho, g5', if_neg (z_m1 (by omega)), tail0, f_X1_readAll_83, g5', if_neg (z_m1 (by omega))]
          exact ⟨s2, rfl, g2, g3, fun i hi => g4 i (by omega), g5'⟩
        | inr y =>
          obtain ⟨p, k, v, y⟩ := y
          rw [ho] at g5 hok
          obtain ⟨T2, q3, q4, q5, q6⟩ := g5
          have hp : p ≤ w := hok.1
          rw [zall_r ho, T2.2.2.1, if_pos rfl, nI_1]
          refine zQra_cons (s2 := s2) g2 (fun i hi => g4 i (by omega)) q4 q5 q6 ?_
          unfold zrest
          by_cases hd : d = 0
          · have h3 : c = 3 := by omega
            rw [if_neg (show ¬ (d ≠ 0 ∧ p < w ∧ g p = 59) from fun z => z.1 hd), if_pos (show (4 : Int32) ≤ nI (c + 1) by rw [h3]; decide), tail0]
            exact p_ra83 hw hp T2 q3
          · rw [if_neg (show ¬ (4 : Int32) ≤ nI (c + 1) by rw [zk4, znI_le (by omega) (by omega)]; omega), p_isNext hw hp T2, zb_s, bI_0]
            by_cases h : p < w ∧ g p = 59
            · rw [decide_eq_true h.1, decide_eq_true h.2, if_pos (show (true && true) = true from rfl), if_pos (show d ≠ 0 ∧ p < w ∧ g p = 59 from ⟨hd, h.1, h.2⟩), f_X1_readAll_62, if_neg (show ¬ (1 : Int32) = 0 by decide), T2.2.1, nI_1, nI_1]
              have ih' := ih (c + 1) (p + 1) (zp s2 52 7 (nI (p + 1))) (fuel + 1) (by omega) hd (by omega) (zTx_at T2 (p + 1)) (by omega)
              obtain ⟨s', a1, a2, a3, a4, a5⟩ := ih'
              exact ⟨s', a1, fun p p1 p2 p3 p4 => by rw [a2 p p1 p2 p3 p4, zp_n _ _ _ p1], a3, fun i hi => by
                have := a4 i hi
                rw [zp_n _ _ _ (by decide), zp_n _ _ _ (by decide), zp_n _ _ _ (by decide)] at this
                exact this, a5⟩
            · have e : (decide (p < w) && decide (g p = 59)) = false := by
                by_cases q : p < w
                · rw [decide_eq_false (fun z => h ⟨q, z⟩), Bool.and_false]
                · rw [decide_eq_false q]; rfl
              rw [e, if_neg (show ¬ false = true by decide), if_neg (show ¬ (d ≠ 0 ∧ p < w ∧ g p = 59) from fun z => h z.2), tail0]
              exact p_ra83 hw hp T2 q3
theorem p_readAll (hg : zsg g w) (hw : w ≤ 40) (h1 : s 52 1 = nI w) (h53 : s 53 = g) : zQra s w 0 (zall g w 4 0) (f_X1_readAll s) := by
  rw [f_X1_readAll]
  have T : zTx (zp (zp (zp s 52 7 0) 52 3 0) 52 2 (-1)) g w 0 (-1) := ⟨by rw [zp_o _ _ (by decide), zp_o _ _ (by decide), zp_o _ _ (by decide)]; exact h1, by rw [zp_o _ _ (by decide), zp_o _ _ (by decide), zp_e]; rfl, zp_e _ _ _ _, by rw [zp_n _ _ _ (by decide), zp_n _ _ _ (by decide), zp_n _ _ _ (by decide)]; exact h53⟩
  obtain ⟨s', a1, a2, a3, a4, a5⟩ := p_raloop hg hw 4 0 0 _ 1000 (by decide) (by decide) (Nat.zero_le w) T (by decide)
  exact ⟨s', a1, fun p p1 p2 p3 p4 => by rw [a2 p p1 p2 p3 p4, zp_n _ _ _ p1, zp_n _ _ _ p1, zp_n _ _ _ p1], a3, fun i hi => absurd hi (Nat.not_lt_zero i), a5⟩
/-! the reference's reading -/
def zQta (τ : zs) (q : Nat) (o : Nat ⊕ List zcav) (x : Option (Int32 × zs)) : Prop := ∃ (b : Bool) (τ' : zs), x = some (bI b, τ') ∧ (∀ p, p ≠ 65 → p ≠ 72 → τ' p = τ p) ∧ (∀ j, j ≠ 11 → j ≠ 12 → j ≠ 14 → τ' 65 j = τ 65 j) ∧ match o with
  | .inl e => b = false ∧ τ' 65 11 = nI e
  | .inr xs => b = true ∧ τ' 65 14 = nI (q + xs.length) ∧ (∀ i, i < xs.length → τ' 72 (3 * (q + i)) = nI (xs.getD i z00).1 ∧ τ' 72 (3 * (q + i) + 1) = nI (xs.getD i z00).2.1 ∧ τ' 72 (3 * (q + i) + 2) = (xs.getD i z00).2.2) ∧ ∀ i, i < 3 * q → τ' 72 i = τ 72 i
theorem zQta_cons {t2 : zs} {q k v : Nat} {y : Int32} {o : Nat ⊕ List zcav} {x : Option (Int32 × zs)} (f : ∀ p, p ≠ 65 → p ≠ 72 → t2 p = τ p) (f65 : ∀ j, j ≠ 11 → j ≠ 12 → j ≠ 14 → t2 65 j = τ 65 j) (fi : ∀ i, i < 3 * q → t2 72 i = τ 72 i) (h4 : t2 72 (3 * q) = nI k) (h5 : t2 72 (3 * q + 1) = nI v) (h6 : t2 72 (3 * q + 2) = y) (h : zQta t2 (q + 1) o x) : zQta τ q (zcons (k, v, y) o) x := by
  obtain ⟨b, s', a1, a2, a3, a5⟩ := h
  refine ⟨b, s', a1, fun p p1 p2 => (a2 p p1 p2).trans (f p p1 p2), fun j j1 j2 j3 => (a3 j j1 j2 j3).trans (f65 j j1 j2 j3), ?_⟩
  rcases o with e | xs
  · exact a5
  · obtain ⟨e1, e2, e3, a4⟩ := a5
    refine ⟨e1, ?_, fun i hi => ?_, fun i hi => (a4 i (by omega)).trans (fi i hi)⟩
    · rw [e2]
      show nI (q + 1 + xs.length) = nI (q + (xs.length + 1))
      congr 1; omega
    · cases i with
      | zero =>
        show s' 72 (3 * q) = nI k ∧ s' 72 (3 * q + 1) = nI v ∧ s' 72 (3 * q + 2) = y
        exact ⟨(a4 _ (by omega)).trans h4, (a4 _ (by omega)).trans h5, (a4 _ (by omega)).trans h6⟩
      | succ i =>
        have := e3 i (Nat.lt_of_succ_lt_succ hi)
        rw [show q + 1 + i = q + (i + 1) by omega] at this
        exact this
theorem m_ta55 {p q : Nat} (hw : w ≤ 40) (hp : p ≤ w) (T : zTm τ g w p) (h14 : τ 65 14 = nI q) : zQta τ q (if p < w then .inl p else .inr []) (f_X9_takesAll_55 τ) := by
  rw [f_X9_takesAll_55, T.1, T.2.1]
  by_cases h : p < w
  · rw [if_pos h, if_neg (by rw [znI_inj (by omega) (by omega)]; omega)]
    exact ⟨false, τ, rfl, fun _ _ _ => rfl, fun _ _ _ _ => rfl, rfl, T.2.1⟩
  · rw [if_neg h, if_pos (by rw [znI_inj (by omega) (by omega)]; omega)]
    exact ⟨true, τ, rfl, fun _ _ _ => rfl, fun _ _ _ _ => rfl, rfl, h14, fun i hi => absurd hi (Nat.not_lt_zero i), fun _ _ => rfl⟩
theorem m_taloop (hg : zsg g w) (hw : w ≤ 40) : ∀ d q p (τ : zs) fuel, q + d = 4 → p ≤ w → zTm τ g w p → τ 65 14 = nI q → d < fuel → zQta τ q (zrest g w d p) (zlp0 f_X9_takesAll_19 fuel τ) := by
  intro d
  induction d with
  | zero =>
    intro q p τ fuel hqd hp T h14 hf
    cases fuel with
    | zero => omega
    | succ fuel =>
      show zQta τ q (zrest g w 0 p) (f_X9_takesAll_19 (zlp0 f_X9_takesAll_19 fuel) τ)
      unfold zrest
      rw [f_X9_takesAll_19, m_here hw hp T, zb_s, if_neg (show ¬ ((0 : Nat) ≠ 0 ∧ p < w ∧ g p = 59) from fun z => z.1 rfl), h14, show q = 4 by omega, if_pos (show (4 : Int32) ≤ nI 4 by decide)]
      have fin := m_ta55 hw hp T (q := 4) (by rw [h14, show q = 4 by omega])
      by_cases hz : zhe g w p = 59
      · rw [if_pos hz]; exact fin
      · rw [if_neg hz]; exact fin
  | succ d ih =>
    intro q p τ fuel hqd hp T h14 hf
    cases fuel with
    | zero => omega
    | succ fuel =>
      show zQta τ q (zrest g w (d + 1) p) (f_X9_takesAll_19 (zlp0 f_X9_takesAll_19 fuel) τ)
      unfold zrest
      rw [f_X9_takesAll_19, m_here hw hp T, zb_s]
      by_cases h : p < w ∧ g p = 59
      · have hh : zhe g w p = 59 := by unfold zhe; rw [if_pos h.1]; exact h.2
        have T1 := zTm_at T (p + 1)
        obtain ⟨b, τ2, b1, b2, b3, b4⟩ := m_takesCaveat hg hw (show p + 1 ≤ w by omega) T1 (q := q) (by omega) (by rw [zp_o _ _ (by decide)]; exact h14)
        rw [hh, if_pos rfl, h14, if_neg (show ¬ (4 : Int32) ≤ nI q by rw [zk4, znI_le (by omega) (by omega)]; omega), if_pos (show d + 1 ≠ 0 ∧ p < w ∧ g p = 59 from ⟨by omega, h.1, h.2⟩), T.2.1, nI_1, b1, zb_s, bI_0]
        have f65 : ∀ j, j ≠ 11 → j ≠ 12 → j ≠ 14 → τ2 65 j = τ 65 j := fun j j1 j2 j3 => by rw [b3 j j1 j2 j3, zp_o _ _ j1]
        have f : ∀ p, p ≠ 65 → p ≠ 72 → τ2 p = τ p := fun p p1 p2 => by rw [b2 p p1 p2, zp_n _ _ _ p1]
        cases ho : zpc g w (p + 1) with
        | inl e =>
          rw [ho] at b4
          obtain ⟨rfl, b5⟩ := b4
          rw [zall_l ho, if_neg (by decide)]
          exact ⟨false, τ2, rfl, f, f65, rfl, b5⟩
        | inr y =>
          obtain ⟨p2, k, v, y⟩ := y
          rw [ho] at b4
          have hok := zpc_ok hg (show p + 1 ≤ w by omega)
          rw [ho] at hok
          obtain ⟨rfl, T2, c1, c2, c3, c4, c5⟩ := b4
          rw [zall_r ho, if_pos rfl]
          refine zQta_cons (t2 := τ2) f f65 (fun i hi => by rw [c5 i hi, zp_n _ _ _ (by decide)]) c2 c3 c4 (ih (q + 1) p2 τ2 fuel (by omega) hok.1 T2 c1 (by omega))
      · have hh : ¬ zhe g w p = 59 := by
          unfold zhe
          by_cases q : p < w
          · rw [if_pos q]; exact fun z => h ⟨q, z⟩
          · rw [if_neg q]; decide
        rw [if_neg hh, if_neg (show ¬ (d + 1 ≠ 0 ∧ p < w ∧ g p = 59) from fun z => h z.2)]
        exact m_ta55 hw hp T h14
theorem m_takesAll (hg : zsg g w) (hw : w ≤ 40) (h5 : τ 65 5 = nI w) (h68 : ∀ i, i < w → τ 68 i = g i) : zQta τ 0 (zall g w 4 0) (f_X9_takesAll τ) := by
  rw [f_X9_takesAll]
  have T : zTm (zp (zp τ 65 11 0) 65 14 0) g w 0 := ⟨by rw [zp_o _ _ (by decide), zp_o _ _ (by decide)]; exact h5, by rw [zp_o _ _ (by decide), zp_e]; rfl, by rw [zp_n _ _ _ (by decide), zp_n _ _ _ (by decide)]; exact h68⟩
  obtain ⟨b, τ2, b1, b2, b3, b4⟩ := m_takesCaveat hg hw (Nat.zero_le w) T (q := 0) (by decide) (zp_e _ _ _ _)
  have f65 : ∀ j, j ≠ 11 → j ≠ 12 → j ≠ 14 → τ2 65 j = τ 65 j := fun j j1 j2 j3 => by rw [b3 j j1 j2 j3, zp_o _ _ j3, zp_o _ _ j1]
  have f : ∀ p, p ≠ 65 → p ≠ 72 → τ2 p = τ p := fun p p1 p2 => by rw [b2 p p1 p2, zp_n _ _ _ p1, zp_n _ _ _ p1]
  rw [b1, zb_s, bI_0]
  cases ho : zpc g w 0 with
  | inl e =>
    rw [ho] at b4
    obtain ⟨rfl, b5⟩ := b4
    rw [zall_l ho, if_neg (by decide)]
    exact ⟨false, τ2, rfl, f, f65, rfl, b5⟩
  | inr y =>
    obtain ⟨p2, k, v, y⟩ := y
    rw [ho] at b4
    have hok := zpc_ok hg (Nat.zero_le w)
    rw [ho] at hok
    obtain ⟨rfl, T2, c1, c2, c3, c4, c5⟩ := b4
    rw [zall_r ho, if_pos rfl]
    exact zQta_cons (t2 := τ2) f f65 (fun i hi => absurd hi (Nat.not_lt_zero i)) c2 c3 c4 (m_taloop hg hw 3 1 p2 τ2 1000 (by decide) hok.1 T2 c1 (by decide))
end QC
