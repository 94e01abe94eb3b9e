/-! open rights -/
/-- whether a caveat holds, for an asking subject, right and argument -/
def zhold (c : zs) (s r a : Int32) (l q : Nat) : Bool :=
  if c 10 (l * 4 + q) = 0 then !decide (c 11 (l * 4 + q) &&& r = 0)
  else if c 10 (l * 4 + q) = 1 then decide (c 1 5 < c 11 (l * 4 + q))
  else if c 10 (l * 4 + q) = 2 then decide (s = c 11 (l * 4 + q))
  else if c 10 (l * 4 + q) = 3 then decide (c 7 l < c 11 (l * 4 + q))
  else decide (c 11 (l * 4 + q) ≤ a ∧ a ≤ c 12 (l * 4 + q))
theorem m_holds {τ c : zs} {K l q : Nat} (R : RTk c (τ 66) K l) (hl : l < 28) (hq : q < zcv c l) (h0 : τ 66 0 = c 1 5) (s r a : Int32) : f_X9_holds τ (nI l) (nI q) s r a = some (bI (zhold c s r a l q), τ) := by
  obtain ⟨c1, c2⟩ := zcv_eq R
  have C := RTk_cv R hq
  have hus := (RT_use R).1
  rw [f_X9_holds, m_part1 τ hl (by omega), zb_s, C.1.2.1, m_part0 τ hl (by omega), zb_s, C.1.1, zG0, zC0, h0]
  simp (disch := omega) only [zk163, nI_add, zg_in, zcl, hus]
  unfold zhold
  by_cases k0 : c 10 (l * 4 + q) = 0
  · rw [if_pos k0, if_pos k0]
    by_cases w : c 11 (l * 4 + q) &&& r = 0
    · rw [if_pos w, decide_eq_true w]; rfl
    · rw [if_neg w, decide_eq_false w]; rfl
  · rw [if_neg k0, if_neg k0]
    by_cases k1 : c 10 (l * 4 + q) = 1
    · rw [if_pos k1, if_pos k1]
      by_cases w : c 1 5 < c 11 (l * 4 + q)
      · rw [if_neg (fun z => zle_nlt.mp z w), decide_eq_true w]; rfl
      · rw [if_pos (zle_nlt.mpr w), decide_eq_false w]; rfl
    · rw [if_neg k1, if_neg k1]
      by_cases k2 : c 10 (l * 4 + q) = 2
      · rw [if_pos k2, if_pos k2]
        by_cases w : s = c 11 (l * 4 + q)
        · rw [if_pos w, decide_eq_true w]; rfl
        · rw [if_neg w, decide_eq_false w]; rfl
      · rw [if_neg k2, if_neg k2]
        by_cases k3 : c 10 (l * 4 + q) = 3
        · rw [if_pos k3, if_pos k3]
          by_cases w : c 7 l < c 11 (l * 4 + q)
          · rw [if_neg (fun z => zle_nlt.mp z w), decide_eq_true w]; rfl
          · rw [if_pos (zle_nlt.mpr w), decide_eq_false w]; rfl
        · rw [if_neg k3, if_neg k3, m_part2 τ hl (by omega), zb_s, C.1.2.2]
          by_cases w : c 11 (l * 4 + q) ≤ a ∧ a ≤ c 12 (l * 4 + q)
          · rw [m_isIn_in τ w.1 w.2, decide_eq_true w]; rfl
          · rw [m_isIn_out τ, decide_eq_false w]
            · rfl
            · by_cases w1 : a < c 11 (l * 4 + q)
              · exact Or.inl w1
              · right
                have w2 : ¬ a ≤ c 12 (l * 4 + q) := fun z => w ⟨zle_nlt.mpr w1, z⟩
                by_cases w3 : c 12 (l * 4 + q) < a
                · exact w3
                · exact absurd (zle_nlt.mpr w3) w2
/-- a caveat that closes all rights to a subject -/
def zbad (c : zs) (s : Int32) (l q : Nat) : Bool := !decide (c 10 (l * 4 + q) = 0) && !decide (c 10 (l * 4 + q) = 4) && !zhold c s 0 0 l q
def zcl2 (c : zs) (t : Nat) (f : Nat → Nat → Bool) : Bool := zany (fun k => zany (f (zch c t k)) (zcv c (zch c t k))) (zln c t)
def zopen (c : zs) (s : Int32) (t : Nat) : Int32 := if zed c t then 0 else if zcl2 c t (zbad c s) then 0 else if zlim c t 5 < zlim c t 4 then 0 else zlim c t 0
theorem zcl2_iff (c : zs) (t : Nat) (f : Nat → Nat → Bool) : zcl2 c t f = true ↔ ∃ k, k < zln c t ∧ ∃ q, q < zcv c (zch c t k) ∧ f (zch c t k) q = true := by
  unfold zcl2
  rw [zany_iff]
  constructor
  · rintro ⟨k, h1, h2⟩; exact ⟨k, h1, (zany_iff _ _).mp h2⟩
  · rintro ⟨k, h1, h2⟩; exact ⟨k, h1, (zany_iff _ _).mpr h2⟩
theorem zcl2_no {c : zs} {t : Nat} {f : Nat → Nat → Bool} (h : zcl2 c t f = false) {k q : Nat} (hk : k < zln c t) (hq : q < zcv c (zch c t k)) : f (zch c t k) q = false := by
  cases e : f (zch c t k) q with
  | false => rfl
  | true => rw [(zcl2_iff c t f).mpr ⟨k, hk, q, hq, e⟩] at h; cases h
def zQv (x : Int32) (τ : zs) (o : Option (Int32 × zs)) : Prop := o = some (x, τ)
theorem m_openRights {τ c : zs} {K n : Nat} (hn : n ≤ 28) (h : ∀ t, t < n → RTk c (τ 66) K t) (h0 : τ 66 0 = c 1 5) {t : Nat} (ht : t < n) (s : Int32) : f_X9_openRights τ s (nI t) = some (zopen c s t, τ) := by
  obtain ⟨hl, hl1, hl7⟩ := zln_eq (h t ht)
  have hcl := zcnt_le (fun k => c 8 (zch c t k) != -1) (zln c t)
  have hz := zed_cnt (c := c) (t := t)
  rw [f_X9_openRights, m_revokedIn hn h ht, zb_s]
  cases e : zed c t with
  | true =>
    rw [if_neg (nI_nle (hz.mp e) (by omega)), zopen, if_pos e]
  | false =>
    have hq : ¬ 0 < zcnt (fun k => c 8 (zch c t k) != -1) (zln c t) := fun x => by rw [hz.mpr x] at e; cases e
    rw [show zcnt (fun k => c 8 (zch c t k) != -1) (zln c t) = 0 by omega, if_pos (by decide)]
    show zQv (zopen c s t) τ _
    refine zli5 (Q := zQv (zopen c s t) τ) (zln c t) (fun i w a b d e f => w = τ ∧ a = s ∧ b = zlimr c t 0 i ∧ d = zlimr c t 4 i ∧ e = zlimr c t 5 i ∧ f = zup c t i ∧ ∀ k, k < i → ∀ q, q < zcv c (zch c t (zln c t - 1 - k)) → zbad c s (zch c t (zln c t - 1 - k)) q = false) ?_ ?_ 1000 (by omega) ⟨rfl, rfl, rfl, rfl, rfl, (zup_0 (h t ht)).symm, fun k hk => absurd hk (by omega)⟩
    · rintro i hi w a b d e' f ⟨rfl, rfl, rfl, rfl, rfl, rfl, hno⟩ rec kk
      obtain ⟨l, e1, e2, e3, e4, e5⟩ := z_road hn h ht hi
      obtain ⟨c1, c2⟩ := zcv_eq (h l e2)
      have hcv := (RT_cav (h l e2)).1
      rw [e4, f_X9_openRights_24, if_neg (zlt0 (by omega))]
      refine zli6 (Q := zQv (zopen c a t) w) (zcv c l) (fun q w2 a2 b d e f g => w2 = w ∧ a2 = a ∧ b = zfold (zstp c 0 l) (zlimr c t 0 i) q ∧ d = zfold (zstp c 4 l) (zlimr c t 4 i) q ∧ e = zfold (zstp c 5 l) (zlimr c t 5 i) q ∧ f = nI l ∧ g = nI q ∧ ∀ q', q' < q → zbad c a l q' = false) ?_ ?_ 1000 (by omega) ⟨rfl, rfl, rfl, rfl, rfl, rfl, rfl, fun k hk => absurd hk (by omega)⟩
      · rintro q hq w2 a2 b d e' f g ⟨rfl, rfl, rfl, rfl, rfl, rfl, rfl, hno2⟩ rec2 kk2
        have C := RTk_cv (h l e2) hq
        rw [f_X9_openRights_32]
        simp (disch := omega) only [zk191, nI_add, zg_in, zcl, hcv, c1, znI_le]
        have f0 := m_part0 w2 e3 (q := q) (by omega)
        have f1 := m_part1 w2 e3 (q := q) (by omega)
        have f2 := m_part2 w2 e3 (q := q) (by omega)
        have fh := m_holds (h l e2) e3 hq h0 a2 0 0
        rw [if_neg (by omega)]
        simp only [f0, f1, f2, fh, zb_s, C.1.1, C.1.2.1, C.1.2.2, bI_0, nI_1]
        have hstep : ∀ (q' : Nat), zbad c a2 l q = false → q' < q + 1 → zbad c a2 l q' = false := by
          intro q' hb hq'
          by_cases e : q' = q
          · subst e; exact hb
          · exact hno2 q' (by omega)
        by_cases k0 : c 10 (l * 4 + q) = 0
        · rw [if_pos k0]
          refine kk2 _ _ _ _ _ _ _ ⟨rfl, rfl, ?_, ?_, ?_, rfl, rfl, fun q' hq' => hstep q' ?_ hq'⟩
          · show _ = zstp c 0 l _ q
            simp only [zstp, znar, k0, ↓reduceIte]
          · show _ = zstp c 4 l _ q
            simp +decide only [zstp, znar, k0, ↓reduceIte]
          · show _ = zstp c 5 l _ q
            simp +decide only [zstp, znar, k0, ↓reduceIte]
          · simp [zbad, k0]
        · rw [if_neg k0]
          by_cases k4 : c 10 (l * 4 + q) = 4
          · rw [if_pos k4]
            refine kk2 _ _ _ _ _ _ _ ⟨rfl, rfl, ?_, ?_, ?_, rfl, rfl, fun q' hq' => hstep q' ?_ hq'⟩
            · show _ = zstp c 0 l _ q
              simp +decide only [zstp, znar, k4, ↓reduceIte]
            · show _ = zstp c 4 l _ q
              simp +decide only [zstp, znar, k4, ↓reduceIte]
            · show _ = zstp c 5 l _ q
              simp +decide only [zstp, znar, k4, ↓reduceIte]
            · simp [zbad, k4]
          · rw [if_neg k4]
            cases hh : zhold c a2 0 0 l q with
            | true =>
              refine kk2 _ _ _ _ _ _ _ ⟨rfl, rfl, ?_, ?_, ?_, rfl, rfl, fun q' hq' => hstep q' ?_ hq'⟩
              · show _ = zstp c 0 l _ q
                simp only [zstp, znar, k0, ↓reduceIte]
              · show _ = zstp c 4 l _ q
                simp only [zstp, znar, k4, ↓reduceIte]
              · show _ = zstp c 5 l _ q
                simp only [zstp, znar, k4, ↓reduceIte]
              · simp [zbad, hh]
            | false =>
              show _ = _
              have hb : zcl2 c t (zbad c a2) = true := by
                rw [zcl2_iff]
                exact ⟨zln c t - 1 - i, by omega, q, by rw [← e1]; exact hq, by rw [← e1]; simp [zbad, k0, k4, hh]⟩
              rw [zopen, if_neg (show ¬ zed c t = true by rw [e]; decide), if_pos hb]; rfl
      · rintro w2 a2 b d e' f g ⟨rfl, rfl, rfl, rfl, rfl, rfl, rfl, hno2⟩ rec2
        rw [f_X9_openRights_32]
        simp (disch := omega) only [zk191, zk79, nI_add, zg_in, zcl, hcv, c1, znI_le, e5]
        rw [if_pos (Nat.le_refl _)]
        refine kk _ _ _ _ _ _ ⟨rfl, rfl, ?_, ?_, ?_, rfl, fun k hk q hq => ?_⟩
        · rw [zlimr_s, ← e1]
        · rw [zlimr_s, ← e1]
        · rw [zlimr_s, ← e1]
        · by_cases e : k = i
          · subst e
            rw [← e1] at hq ⊢
            exact hno2 q hq
          · exact hno k (by omega) q hq
    · rintro w a b d e' f ⟨rfl, rfl, rfl, rfl, rfl, rfl, hno⟩ rec
      have hb : zcl2 c t (zbad c a) = false := by
        cases hx : zcl2 c t (zbad c a) with
        | false => rfl
        | true =>
          obtain ⟨k, hk, q, hq, hf⟩ := (zcl2_iff _ _ _).mp hx
          have := hno (zln c t - 1 - k) (by omega) q (by rw [show zln c t - 1 - (zln c t - 1 - k) = k by omega]; exact hq)
          rw [show zln c t - 1 - (zln c t - 1 - k) = k by omega, hf] at this
          cases this
      show _ = _
      rw [zup_end, f_X9_openRights_24, if_pos (by decide), zlim_rev hn h ht, zlim_rev hn h ht, zlim_rev hn h ht, zopen, if_neg (show ¬ zed c t = true by rw [e]; decide), if_neg (show ¬ zcl2 c t (zbad c a) = true by rw [hb]; decide)]
      by_cases w5 : zlim c t 5 < zlim c t 4
      · rw [if_pos w5, if_pos w5]
      · rw [if_neg w5, if_neg w5]
/-- a test that each step keeps, or not -/
theorem zfold_test {α : Type} {G : Nat → α → Nat → α} {cnt : Nat → Nat} {T : α → Prop} {f : Nat → Nat → Bool} {v : α} {N : Nat} (h0 : T v) (hs : ∀ k, k < N → ∀ q, q < cnt k → ∀ v, T (G k v q) ↔ (T v ∧ f k q = false)) : T (zfold (fun v k => zfold (G k) v (cnt k)) v N) ↔ zany (fun k => zany (f k) (cnt k)) N = false := by
  have inner : ∀ k, k < N → ∀ M, M ≤ cnt k → ∀ v, T (zfold (G k) v M) ↔ (T v ∧ zany (f k) M = false) := by
    intro k hk M
    induction M with
    | zero => intro _ v; simp [zfold, zany]
    | succ M ih =>
      intro hM v
      show T (G k (zfold (G k) v M) M) ↔ _
      rw [hs k hk M (by omega), ih (by omega), zany, Bool.or_eq_false_iff, and_assoc]
  have outer : ∀ M, M ≤ N → (T (zfold (fun v k => zfold (G k) v (cnt k)) v M) ↔ zany (fun k => zany (f k) (cnt k)) M = false) := by
    intro M
    induction M with
    | zero => intro _; simp [zfold, zany, h0]
    | succ M ih =>
      intro hM
      show T (zfold (G M) (zfold (fun v k => zfold (G k) v (cnt k)) v M) (cnt M)) ↔ _
      rw [inner M (by omega) _ (Nat.le_refl _), ih (by omega), zany, Bool.or_eq_false_iff]
  exact outer N (Nat.le_refl _)
theorem zcl2_or (c : zs) (t : Nat) (f g : Nat → Nat → Bool) : zcl2 c t (fun l q => f l q || g l q) = (zcl2 c t f || zcl2 c t g) := by
  cases e : zcl2 c t f || zcl2 c t g with
  | true =>
    rw [Bool.or_eq_true] at e
    rw [zcl2_iff]
    rcases e with e | e
    · obtain ⟨k, h1, q, h2, h3⟩ := (zcl2_iff _ _ _).mp e
      exact ⟨k, h1, q, h2, by rw [h3]; rfl⟩
    · obtain ⟨k, h1, q, h2, h3⟩ := (zcl2_iff _ _ _).mp e
      exact ⟨k, h1, q, h2, by rw [h3]; simp⟩
  | false =>
    rw [Bool.or_eq_false_iff] at e
    cases hx : zcl2 c t (fun l q => f l q || g l q) with
    | false => rfl
    | true =>
      obtain ⟨k, h1, q, h2, h3⟩ := (zcl2_iff _ _ _).mp hx
      rw [zcl2_no e.1 h1 h2, zcl2_no e.2 h1 h2] at h3
      cases h3
theorem zles_lt {tm v x : Int32} (hx : x ≠ -1) : (zles v x = -1 ∨ tm < zles v x) ↔ ((v = -1 ∨ tm < v) ∧ tm < x) := by
  rw [zles_mn]
  by_cases h : v = -1
  · rw [if_pos h]; simp [h, hx]
  · rw [if_neg h]
    have h1 : zmn v x ≠ -1 := by rcases zmn_or v x with e | e <;> rw [e] <;> assumption
    simp only [h, h1, false_or]
    simp only [Int32.lt_iff_toInt_lt, zmn_toInt]
    omega
theorem zles_z {v x : Int32} (hx : 0 ≤ x) (hv : v = -1 ∨ 0 ≤ v) : zles v x ≠ 0 ↔ (v ≠ 0 ∧ x ≠ 0) := by
  rw [zles_mn]
  rcases hv with rfl | hv
  · rw [if_pos rfl]; simp
  · rw [if_neg (fun e => by rw [e] at hv; exact absurd hv (by decide))]
    have t : ∀ y : Int32, y ≠ 0 ↔ y.toInt ≠ 0 := fun y => not_congr (by rw [← Int32.toInt_inj]; exact Iff.rfl)
    rw [t, t, t, zmn_toInt]
    rw [Int32.le_iff_toInt_le] at hx hv
    have z0 : (0 : Int32).toInt = 0 := by decide
    omega
theorem zles_T3 {v x : Int32} (hx : 0 ≤ x) : ((zles v x = -1 ∨ 0 ≤ zles v x) ∧ zles v x ≠ 0) ↔ (((v = -1 ∨ 0 ≤ v) ∧ v ≠ 0) ∧ x ≠ 0) := by
  have t : ∀ y z : Int32, y = z ↔ y.toInt = z.toInt := fun y z => by rw [← Int32.toInt_inj]
  have z0 : (0 : Int32).toInt = 0 := by decide
  have z1 : (-1 : Int32).toInt = -1 := by decide
  have hx0 := hx
  rw [zles_mn]
  rw [Int32.le_iff_toInt_le, z0] at hx
  by_cases h : v = -1
  · rw [if_pos h]
    subst h
    constructor
    · rintro ⟨_, q⟩; exact ⟨⟨Or.inl rfl, by decide⟩, q⟩
    · rintro ⟨_, q⟩; exact ⟨Or.inr hx0, q⟩
  · rw [if_neg h]
    rw [t, z1] at h
    simp only [ne_eq, t, Int32.le_iff_toInt_le, zmn_toInt, z0, z1]
    omega
theorem zmx_z {a u : Int32} {K : Nat} (ha : zr a 1000) (hu : zr u (K + 1)) (hK : K < 100000) : zmx (a - u) ≠ 0 ↔ u < a := by
  obtain ⟨x, x1, x2, rfl⟩ := ha
  obtain ⟨y, y1, y2, rfl⟩ := hu
  have e := pk_sub_toInt (a := x) (b := y) (by omega) (by omega)
  have z0 : (0 : Int32).toInt = 0 := by decide
  rw [znI_lt (by omega) (by omega)]
  unfold zmx
  split
  · rename_i h
    rw [Int32.lt_iff_toInt_lt, z0, e] at h
    constructor
    · intro _; omega
    · intro _ q; rw [q, z0] at e; omega
  · rename_i h
    rw [Int32.lt_iff_toInt_lt, z0, e] at h
    constructor
    · intro q; exact absurd rfl q
    · intro q; omega
section PJ
variable {σ : zs} {m : Nat → Int32} {K n : Nat}
theorem zbad_split (c : zs) (s : Int32) (l q : Nat) (hk : zr (c 10 (l * 4 + q)) 5) : zbad c s l q = ((decide (c 10 (l * 4 + q) = 1) && !decide (c 1 5 < c 11 (l * 4 + q))) || ((decide (c 10 (l * 4 + q) = 2) && !decide (s = c 11 (l * 4 + q))) || (decide (c 10 (l * 4 + q) = 3) && !decide (c 7 l < c 11 (l * 4 + q))))) := by
  unfold zbad zhold
  rcases zr5 hk with e | e | e | e | e <;> simp +decide only [e, ↓reduceIte] <;> simp
theorem p_openRights (hn : n ≤ 28) (hK : K < 100000) (h : ∀ t, t < n → RTk σ m K t) {t : Nat} (ht : t < n) {s : Nat} (hs : s < 6) : ∃ σ' : zs, f_X7_openRights σ (nI s) (nI t) (σ 1 5) = some (zopen σ (nI s) t, σ') ∧ ∀ p, p ≠ 13 → σ' p = σ p := by
  rw [f_X7_openRights, p_X7_isEnded hn h ht, zb_s, bI_0]
  unfold zopen
  cases e : zed σ t with
  | true => exact ⟨σ, rfl, fun _ _ => rfl⟩
  | false =>
    obtain ⟨s1, g1, g2, g3⟩ := p_X7_limitsOf hn h ht
    have v0 := g3 0 (by decide)
    have v1 := g3 1 (by decide)
    have v2 := g3 2 (by decide)
    have v3 := g3 3 (by decide)
    have v4 := g3 4 (by decide)
    have v5 := g3 5 (by decide)
    refine ⟨s1, ?_, g2⟩
    have key : ∀ k, k < zln σ t → zch σ t k < n := fun k hk => (zch_b hn h ht hk).1
    -- the three tests
    have T1 : (zlim σ t 1 = -1 ∨ σ 1 5 < zlim σ t 1) ↔ zcl2 σ t (fun l q => decide (σ 10 (l * 4 + q) = 1) && !decide (σ 1 5 < σ 11 (l * 4 + q))) = false := by
      refine zfold_test (T := fun v => v = -1 ∨ σ 1 5 < v) (f := fun k q => decide (σ 10 (zch σ t k * 4 + q) = 1) && !decide (σ 1 5 < σ 11 (zch σ t k * 4 + q))) (Or.inl rfl) (fun k hk q hq v => ?_)
      have C := RTk_cv (h _ (key k hk)) hq
      simp only [zstp, znar]
      by_cases w : σ 10 (zch σ t k * 4 + q) = 1
      · rw [if_pos w, zles_lt (zr_ne C.2.2.1)]; simp [w]
      · rw [if_neg w]; simp [w]
    have T2 : zbit (zlim σ t 2) s = true ↔ zcl2 σ t (fun l q => decide (σ 10 (l * 4 + q) = 2) && !decide (nI s = σ 11 (l * 4 + q))) = false := by
      refine zfold_test (T := fun v => zbit v s = true) (f := fun k q => decide (σ 10 (zch σ t k * 4 + q) = 2) && !decide (nI s = σ 11 (zch σ t k * 4 + q))) (by
        have e6 : ∀ s, s < 6 → zbit 63 s = true := by decide +kernel
        exact e6 s hs) (fun k hk q hq v => ?_)
      have C := RTk_cv (h _ (key k hk)) hq
      simp only [zstp, znar]
      by_cases w : σ 10 (zch σ t k * 4 + q) = 2
      · obtain ⟨x, x1, x2, x3⟩ := C.2.2.2.2.1 w
        rw [if_pos w, x3, zbit_and, zbit_1s (by omega) (by omega)]
        simp (disch := omega) [w, znI_inj]
      · rw [if_neg w]; simp [w]
    have mx0 : ∀ x, 0 ≤ zmx x := by
      intro x; unfold zmx
      split
      · rename_i w; exact Int32.le_of_lt w
      · exact Int32.le_refl _
    have T3 : ((zlim σ t 3 = -1 ∨ 0 ≤ zlim σ t 3) ∧ zlim σ t 3 ≠ 0) ↔ zcl2 σ t (fun l q => decide (σ 10 (l * 4 + q) = 3) && !decide (σ 7 l < σ 11 (l * 4 + q))) = false := by
      refine zfold_test (T := fun v => (v = -1 ∨ 0 ≤ v) ∧ v ≠ 0) (f := fun k q => decide (σ 10 (zch σ t k * 4 + q) = 3) && !decide (σ 7 (zch σ t k) < σ 11 (zch σ t k * 4 + q))) ⟨Or.inl rfl, by decide⟩ (fun k hk q hq v => ?_)
      have C := RTk_cv (h _ (key k hk)) hq
      have hu := (RT_use (h _ (key k hk))).2
      simp only [zstp, znar]
      by_cases w : σ 10 (zch σ t k * 4 + q) = 3
      · rw [if_pos w, zles_T3 (mx0 _), zmx_z C.2.2.1 hu hK]; simp [w]
      · rw [if_neg w]; simp [w]
    have A3 : zlim σ t 3 = -1 ∨ 0 ≤ zlim σ t 3 := by
      refine zfold_P (P := fun v => v = -1 ∨ (0 : Int32) ≤ v) (Or.inl rfl) (fun k _ v hv => zfold_P (P := fun v => v = -1 ∨ (0 : Int32) ≤ v) hv (fun q _ v hv => ?_))
      simp only [zstp, znar]
      split
      · rw [zles_mn]
        split
        · exact Or.inr (mx0 _)
        · rcases zmn_or v (zmx (σ 11 (zch σ t k * 4 + q) - σ 7 (zch σ t k))) with e | e
          · rw [e]; exact hv
          · rw [e]; exact Or.inr (mx0 _)
      · exact hv
    have hb : zcl2 σ t (zbad σ (nI s)) = (zcl2 σ t (fun l q => decide (σ 10 (l * 4 + q) = 1) && !decide (σ 1 5 < σ 11 (l * 4 + q))) || (zcl2 σ t (fun l q => decide (σ 10 (l * 4 + q) = 2) && !decide (nI s = σ 11 (l * 4 + q))) || zcl2 σ t (fun l q => decide (σ 10 (l * 4 + q) = 3) && !decide (σ 7 l < σ 11 (l * 4 + q))))) := by
      rw [← zcl2_or, ← zcl2_or]
      exact zany_cong (fun k hk => zany_cong (fun q hq => zbad_split σ (nI s) _ q (RTk_cv (h _ (key k hk)) hq).2.1))
    have end0 : ∀ x, f_X7_openRights_80 s1 0 = some (x, s1) ↔ (0 : Int32) = x := by
      intro x
      rw [f_X7_openRights_80, if_pos rfl]
      constructor
      · intro q; cases q; rfl
      · intro q; rw [q]
    rw [if_neg (show ¬ false = true by decide), if_neg (show ¬ false = true by decide), g1, zb_s, v1]
    have R40 : ∀ b : Bool, (if b = true then (zlim σ t 1 = -1 ∨ σ 1 5 < zlim σ t 1) else ¬ (zlim σ t 1 = -1 ∨ σ 1 5 < zlim σ t 1)) → f_X7_openRights_40 s1 (nI s) (bI b) = some ((if zcl2 σ t (zbad σ (nI s)) then 0 else if zlim σ t 5 < zlim σ t 4 then 0 else zlim σ t 0), s1) := by
      intro b hbb
      cases b with
      | false =>
        have x1 : zcl2 σ t (fun l q => decide (σ 10 (l * 4 + q) = 1) && !decide (σ 1 5 < σ 11 (l * 4 + q))) = true := by
          cases hx : zcl2 σ t (fun l q => decide (σ 10 (l * 4 + q) = 1) && !decide (σ 1 5 < σ 11 (l * 4 + q))) with
          | true => rfl
          | false => exact absurd (T1.mpr hx) (by simpa using hbb)
        rw [hb, x1, f_X7_openRights_40, if_pos (show bI false = 0 from rfl), end0]; rfl
      | true =>
        have x1 := T1.mp (by simpa using hbb)
        rw [hb, x1, f_X7_openRights_40, if_neg (show ¬ bI true = 0 by decide), v2, p_hasBit _ _ (show s < 32 by omega), zb_s, bI_0]
        cases y2 : zbit (zlim σ t 2) s with
        | false =>
          have x2 : zcl2 σ t (fun l q => decide (σ 10 (l * 4 + q) = 2) && !decide (nI s = σ 11 (l * 4 + q))) = true := by
            cases hx : zcl2 σ t (fun l q => decide (σ 10 (l * 4 + q) = 2) && !decide (nI s = σ 11 (l * 4 + q))) with
            | true => rfl
            | false => rw [T2.mpr hx] at y2; cases y2
          rw [x2, if_neg (by decide), end0]; rfl
        | true =>
          rw [T2.mp y2, if_pos rfl, v3]
          by_cases y3 : zlim σ t 3 = 0
          · have x3 : zcl2 σ t (fun l q => decide (σ 10 (l * 4 + q) = 3) && !decide (σ 7 l < σ 11 (l * 4 + q))) = true := by
              cases hx : zcl2 σ t (fun l q => decide (σ 10 (l * 4 + q) = 3) && !decide (σ 7 l < σ 11 (l * 4 + q))) with
              | true => rfl
              | false => exact absurd y3 (T3.mpr hx).2
            rw [x3, if_pos y3, end0]; rfl
          · rw [T3.mp ⟨A3, y3⟩, if_neg y3, f_X3_hasArgument, v4, v5]
            by_cases y5 : zlim σ t 5 < zlim σ t 4
            · rw [if_pos y5, zb_s, if_pos rfl, end0]
              simp [y5]
            · rw [if_neg y5, zb_s, if_neg (by decide), f_X7_openRights_80, if_neg (by decide), v0]
              simp [y5]
    by_cases y1 : zlim σ t 1 = -1
    · rw [if_pos y1]
      exact R40 true (by rw [if_pos rfl]; exact Or.inl y1)
    · rw [if_neg y1]
      by_cases y2 : zlim σ t 1 ≤ σ 1 5
      · rw [if_pos y2]
        exact R40 false (by
          rw [if_neg (by decide)]
          rintro (z | z)
          · exact y1 z
          · exact zle_nlt.mp y2 z)
      · rw [if_neg y2]
        exact R40 true (by
          rw [if_pos rfl]
          right
          by_cases z : σ 1 5 < zlim σ t 1
          · exact z
          · exact absurd (zle_nlt.mpr z) y2)
end PJ
