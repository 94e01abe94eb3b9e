/-! reports, and asking -/
abbrev zL : Type := List (Int32 × Int32)
def zRepC (σ : zs) (L : zL) : Prop := σ 49 2 = nI L.length ∧ ∀ i, i < L.length → σ 50 i = (L.getD i (0, 0)).1 ∧ σ 51 i = (L.getD i (0, 0)).2
def zRepM (τ : zs) (L : zL) : Prop := τ 65 10 = nI L.length ∧ ∀ i, i < L.length → τ 70 i = (L.getD i (0, 0)).1 ∧ τ 71 i = (L.getD i (0, 0)).2
theorem RRp_of {σ : zs} {L : zL} (hL : L.length ≤ 3) (h1 : zRepC σ L) (h2 : zRepM σ L) : RRp σ :=
  ⟨L.length, hL, ⟨h1.1, h2.1⟩, fun i hi => ⟨(h2.2 i hi).1.trans (h1.2 i hi).1.symm, (h2.2 i hi).2.trans (h1.2 i hi).2.symm⟩⟩
theorem zRepC_cong {σ σ' : zs} {L : zL} (h : ∀ p, (p = 49 ∨ p = 50 ∨ p = 51) → σ' p = σ p) (R : zRepC σ L) : zRepC σ' L := by
  unfold zRepC at *
  rw [h 49 (by decide), h 50 (by decide), h 51 (by decide)]; exact R
theorem zRepM_cong {σ σ' : zs} {L : zL} (h : ∀ p, (p = 70 ∨ p = 71) → σ' p = σ p) (h2 : σ' 65 10 = σ 65 10) (R : zRepM σ L) : zRepM σ' L := by
  unfold zRepM at *
  rw [h2, h 70 (by decide), h 71 (by decide)]; exact R
def zF3 (σ σ' : zs) : Prop := ∀ p, p ≠ 49 → p ≠ 50 → p ≠ 51 → σ' p = σ p
theorem p_addCause {σ : zs} {L : zL} (hL : L.length < 3) (R : zRepC σ L) (a b : Int32) : ∃ σ' : zs, f_X5_addCause σ a b = some (0, σ') ∧ zF3 σ σ' ∧ zRepC σ' (L ++ [(a, b)]) := by
  obtain ⟨h1, h2⟩ := R
  unfold f_X5_addCause
  rw [h1, if_neg (by rw [show (3 : Int32) = nI 3 from rfl, znI_le (by omega) (by omega)]; omega)]
  simp (disch := omega) only [zg_in, zcl, zp_n, h1, nI_1]
  refine ⟨_, rfl, fun p p1 p2 p3 => by rw [zp_n _ _ _ p1, zp_n _ _ _ p3, zp_n _ _ _ p2], ?_, fun i hi => ?_⟩
  · rw [zp_e, List.length_append]; rfl
  · simp only [zp_rd, List.length_append, List.length_singleton] at hi ⊢
    by_cases e : i = L.length
    · subst e; simp
    · have hi' : i < L.length := by omega
      have := h2 i hi'
      simp only [List.getD_eq_getElem?_getD] at this ⊢
      rw [List.getElem?_append_left hi']
      simp [e, this]
theorem p_begin (σ : zs) (a b : Int32) : ∃ σ' : zs, f_X5_begin σ a b = some (0, σ') ∧ zF3 σ σ' ∧ zRepC σ' [(a, b)] := by
  unfold f_X5_begin
  obtain ⟨s1, g1, g2, g3⟩ := p_addCause (σ := zp σ 49 2 0) (L := []) (by decide) ⟨zp_e _ _ _ _, fun i hi => absurd hi (by simp)⟩ a b
  rw [g1, zb_s]
  exact ⟨s1, rfl, fun p p1 p2 p3 => by rw [g2 p p1 p2 p3, zp_n _ _ _ p1], g3⟩
def zH3 (τ τ' : zs) : Prop := (∀ p, p ≠ 65 → p ≠ 70 → p ≠ 71 → τ' p = τ p) ∧ ∀ j, j ≠ 10 → τ' 65 j = τ 65 j
theorem m_tells {τ : zs} {L : zL} (hL : L.length < 3) (R : zRepM τ L) (a b : Int32) : ∃ τ' : zs, f_X9_tells τ a b = some (0, τ') ∧ zH3 τ τ' ∧ zRepM τ' (L ++ [(a, b)]) := by
  obtain ⟨h1, h2⟩ := R
  unfold f_X9_tells
  rw [h1]
  simp (disch := omega) only [zg_in, zcl, zp_n, h1, nI_1]
  refine ⟨_, rfl, ⟨fun p p1 p2 p3 => by rw [zp_n _ _ _ p1, zp_n _ _ _ p3, zp_n _ _ _ p2], fun j hj => by rw [zp_o _ _ hj, zp_n _ _ _ (by decide), zp_n _ _ _ (by decide)]⟩, ?_, fun i hi => ?_⟩
  · rw [zp_e, List.length_append]; rfl
  · simp only [zp_rd, List.length_append, List.length_singleton] at hi ⊢
    by_cases e : i = L.length
    · subst e; simp
    · have hi' : i < L.length := by omega
      have := h2 i hi'
      simp only [List.getD_eq_getElem?_getD] at this ⊢
      rw [List.getElem?_append_left hi']
      simp [e, this]
theorem m_reports (τ : zs) (a b k : Int32) : ∃ τ' : zs, f_X9_reports τ a b k = some (k, τ') ∧ zH3 τ τ' ∧ zRepM τ' [(a, b)] := by
  unfold f_X9_reports
  obtain ⟨s1, g1, g2, g3⟩ := m_tells (τ := zp τ 65 10 0) (L := []) (by decide) ⟨zp_e _ _ _ _, fun i hi => absurd hi (by simp)⟩ a b
  rw [g1, zb_s]
  exact ⟨s1, rfl, ⟨fun p p1 p2 p3 => by rw [g2.1 p p1 p2 p3, zp_n _ _ _ p1], fun j hj => by rw [g2.2 j hj, zp_o _ _ hj]⟩, g3⟩
/-- the first answer of a row of questions -/
def zs1 {α : Type} (f : Nat → Option α) : Nat → Option α
  | 0 => none
  | n + 1 => match zs1 f n with
    | some x => some x
    | none => f n
theorem zs1_hit {α : Type} {f : Nat → Option α} {i : Nat} {x : α} (h0 : zs1 f i = none) (h1 : f i = some x) : ∀ {N : Nat}, i < N → zs1 f N = some x
  | 0, h => absurd h (by omega)
  | N + 1, h => by
    by_cases e : i = N
    · subst e; rw [zs1, h0]; exact h1
    · rw [zs1, zs1_hit h0 h1 (N := N) (by omega)]
theorem zs1_s {α : Type} {f : Nat → Option α} {i : Nat} (h0 : zs1 f i = none) (h1 : f i = none) : zs1 f (i + 1) = none := by rw [zs1, h0]; exact h1
def zlook (c : zs) (s r a : Int32) (l q : Nat) : Int32 := if c 10 (l * 4 + q) = 0 then r else if c 10 (l * 4 + q) = 1 then c 1 5 else if c 10 (l * 4 + q) = 2 then s else if c 10 (l * 4 + q) = 3 then c 7 l else a
def zlnkq (c : zs) (s r a : Int32) (l q : Nat) : Option zL := if zhold c s r a l q then none else some [(4, nI l), (10 + c 10 (l * 4 + q), nI q), (20, zlook c s r a l q)]
def zlnk (c : zs) (s r a : Int32) (l : Nat) : Option zL := if c 8 l = -1 then zs1 (zlnkq c s r a l) (zcv c l) else some [(2, nI l), (3, c 8 l)]
def zask (c : zs) (s t : Nat) (r a : Int32) : Option zL := if zbit (c 6 t) s then zs1 (fun k => zlnk c (nI s) r a (zch c t k)) (zln c t) else some [(1, nI t)]
def zIs (o : Option zL) : Bool := match o with
  | none => true
  | some _ => false
/-- what the class's world is behind an asking -/
def zFa (σ σ' : zs) : Prop := ∀ p, p ≠ 49 → p ≠ 50 → p ≠ 51 → p ≠ 62 → σ' p = σ p
def zDen (σ σ' : zs) (o : Option zL) : Prop := match o with
  | none => ∀ p, (p = 49 ∨ p = 50 ∨ p = 51) → σ' p = σ p
  | some L => zRepC σ' L ∧ L.length ≤ 3
def zQask (σ : zs) (o : Option zL) (x : Option (Int32 × zs)) : Prop := ∃ σ' : zs, x = some (bI (zIs o), σ') ∧ zFa σ σ' ∧ zDen σ σ' o
theorem p_caveatHolds {c : zs} (σ : zs) {l q : Nat} (hk : zr (c 10 (l * 4 + q)) 5) (s r a : Int32) : f_X8_caveatHolds σ (c 10 (l * 4 + q)) (c 11 (l * 4 + q)) (c 12 (l * 4 + q)) (zlook c s r a l q) = some (bI (zhold c s r a l q), σ) := by
  unfold f_X8_caveatHolds zlook zhold
  rcases zr5 hk with e | e | e | e | e <;> simp +decide only [e, ↓reduceIte]
  · by_cases w : c 11 (l * 4 + q) &&& r = 0
    · rw [if_pos w, decide_eq_true w]; rfl
    · rw [if_neg w, decide_eq_false w]; rfl
  · by_cases w : c 1 5 < c 11 (l * 4 + q)
    · rw [if_neg (fun z => zle_nlt.mp z w), decide_eq_true w]; rfl
    · rw [if_pos (zle_nlt.mpr w), decide_eq_false w]; rfl
  · by_cases w : s = c 11 (l * 4 + q)
    · rw [if_pos w, decide_eq_true w]; rfl
    · rw [if_neg w, decide_eq_false w]; rfl
  · by_cases w : c 7 l < c 11 (l * 4 + q)
    · rw [if_neg (fun z => zle_nlt.mp z w), decide_eq_true w]; rfl
    · rw [if_pos (zle_nlt.mpr w), decide_eq_false w]; rfl
  · by_cases w : a < c 11 (l * 4 + q)
    · rw [if_pos w, decide_eq_false (fun z => zle_nlt.mp z.1 w)]; rfl
    · by_cases w2 : c 12 (l * 4 + q) < a
      · rw [if_neg w, if_pos w2, decide_eq_false (fun z => zle_nlt.mp z.2 w2)]; rfl
      · rw [if_neg w, if_neg w2, decide_eq_true ⟨zle_nlt.mpr w, zle_nlt.mpr w2⟩]; rfl
/-- what stands in seen -/
def zSeen (c σ : zs) (s r a : Int32) : Prop := σ 62 0 = r ∧ σ 62 1 = c 1 5 ∧ σ 62 2 = s ∧ σ 62 4 = a
section PL
variable {c : zs} {m : Nat → Int32} {K n : Nat}
def zQlk (c σ : zs) (s r a : Int32) (o : Option zL) (x : Option (Int32 × zs)) : Prop := ∃ σ' : zs, x = some (bI (zIs o), σ') ∧ zFa σ σ' ∧ zDen σ σ' o ∧ zSeen c σ' s r a
theorem zFa_trans {a b d : zs} (h : zFa a b) (k : zFa b d) : zFa a d := fun p p1 p2 p3 p4 => (k p p1 p2 p3 p4).trans (h p p1 p2 p3 p4)
theorem zFa_3 {a b : zs} (h : zF3 a b) : zFa a b := fun p p1 p2 p3 _ => h p p1 p2 p3
theorem p_linkAllows (hn : n ≤ 28) (h : ∀ t, t < n → RTk c m K t) {σ : zs} (hc : ∀ p, 1 ≤ p → p ≤ 12 → σ p = c p) {l : Nat} (hl : l < n) {s r a : Int32} (S : zSeen c σ s r a) : zQlk c σ s r a (zlnk c s r a l) (f_X8_linkAllows σ (nI l)) := by
  have R := h l hl
  obtain ⟨c1, c2⟩ := zcv_eq R
  rw [f_X8_linkAllows, zcl (by omega), zg_in _ (by omega) (by omega), hc 8 (by decide) (by decide)]
  unfold zlnk
  by_cases w : c 8 l = -1
  · rw [if_pos w, if_pos w, zg_in _ (by omega) (by omega), hc 7 (by decide) (by decide)]
    rw [show zin (3 : Int32) 5 = true from by decide, zg_t, show (3 : Int32).toNatClampNeg = 3 from rfl]
    refine zli2 (Q := zQlk c σ s r a (zs1 (zlnkq c s r a l) (zcv c l))) (zcv c l) (fun q w2 x y => x = nI l ∧ y = nI q ∧ w2 = zp σ 62 3 (c 7 l) ∧ zs1 (zlnkq c s r a l) q = none) ?_ ?_ 1000 (by omega) ⟨rfl, rfl, rfl, rfl⟩
    · rintro q hq w2 x y ⟨rfl, rfl, rfl, hno⟩ rec kk
      have C := RTk_cv R hq
      have S' : zSeen c (zp σ 62 3 (c 7 l)) s r a := by
        obtain ⟨a1, a2, a3, a4⟩ := S
        exact ⟨by rw [zp_o _ _ (by decide)]; exact a1, by rw [zp_o _ _ (by decide)]; exact a2, by rw [zp_o _ _ (by decide)]; exact a3, by rw [zp_o _ _ (by decide)]; exact a4⟩
      have hlook : (zp σ 62 3 (c 7 l)) 62 (c 10 (l * 4 + q)).toNatClampNeg = zlook c s r a l q := by
        unfold zlook
        rcases zr5 C.2.1 with e | e | e | e | e <;> simp +decide only [e, ↓reduceIte]
        · exact S'.1
        · exact S'.2.1
        · exact S'.2.2.1
        · exact zp_e _ _ _ _
        · exact S'.2.2.2
      have hz5 : zin (c 10 (l * 4 + q)) 5 = true := by rcases zr5 C.2.1 with e | e | e | e | e <;> rw [e] <;> decide
      rw [f_X8_linkAllows_57]
      simp (disch := omega) only [zp_n, hc 9 (by decide) (by decide), hc 10 (by decide) (by decide), hc 11 (by decide) (by decide), hc 12 (by decide) (by decide), zk4, nI_mul, nI_add, zg_in, zcl, c1, znI_le]
      rw [if_neg (by omega), hz5, zg_t, hlook, p_caveatHolds _ C.2.1, zb_s, bI_0, nI_1]
      cases hh : zhold c s r a l q with
      | true => exact kk _ _ _ ⟨rfl, rfl, rfl, zs1_s hno (by rw [zlnkq, hh]; rfl)⟩
      | false =>
        rw [if_neg (by decide), zs1_hit hno (show zlnkq c s r a l q = some _ by rw [zlnkq, hh]; rfl) hq]
        obtain ⟨s1, g1, g2, g3⟩ := p_begin (zp σ 62 3 (c 7 l)) (nI 4) (nI l)
        rw [g1, zb_s]
        obtain ⟨s2, g4, g5, g6⟩ := p_addCause (by simp) g3 (10 + c 10 (l * 4 + q)) (nI q)
        rw [g4, zb_s, zg_t]
        have e62 : s2 62 = (zp σ 62 3 (c 7 l)) 62 := by rw [g5 62 (by decide) (by decide) (by decide), g2 62 (by decide) (by decide) (by decide)]
        rw [e62, hlook]
        obtain ⟨s3, g7, g8, g9⟩ := p_addCause (by simp) g6 20 (zlook c s r a l q)
        rw [g7, zb_s]
        refine ⟨s3, rfl, fun p p1 p2 p3 p4 => by rw [g8 p p1 p2 p3, g5 p p1 p2 p3, g2 p p1 p2 p3, zp_n _ _ _ p4], ⟨g9, by simp⟩, ?_⟩
        have e3 : s3 62 = (zp σ 62 3 (c 7 l)) 62 := by rw [g8 62 (by decide) (by decide) (by decide), e62]
        unfold zSeen
        rw [e3]; exact S'
    · rintro w2 x y ⟨rfl, rfl, rfl, hno⟩ rec
      rw [f_X8_linkAllows_57]
      simp (disch := omega) only [zp_n, hc 9 (by decide) (by decide), zg_in, zcl, c1, znI_le]
      rw [if_pos (Nat.le_refl _), hno]
      refine ⟨_, rfl, fun p p1 p2 p3 p4 => zp_n _ _ _ p4, fun p hp => zp_n _ _ _ (by omega), ?_⟩
      obtain ⟨a1, a2, a3, a4⟩ := S
      exact ⟨by rw [zp_o _ _ (by decide)]; exact a1, by rw [zp_o _ _ (by decide)]; exact a2, by rw [zp_o _ _ (by decide)]; exact a3, by rw [zp_o _ _ (by decide)]; exact a4⟩
  · rw [if_neg w, if_neg w]
    obtain ⟨s1, g1, g2, g3⟩ := p_begin σ 2 (nI l)
    rw [g1, zb_s, zg_in _ (by omega) (by omega), g2 8 (by decide) (by decide) (by decide), hc 8 (by decide) (by decide)]
    obtain ⟨s2, g4, g5, g6⟩ := p_addCause (by simp) g3 3 (c 8 l)
    rw [g4, zb_s]
    refine ⟨s2, rfl, fun p p1 p2 p3 p4 => by rw [g5 p p1 p2 p3, g2 p p1 p2 p3], ⟨g6, by simp⟩, ?_⟩
    have e62 : s2 62 = σ 62 := by rw [g5 62 (by decide) (by decide) (by decide), g2 62 (by decide) (by decide) (by decide)]
    unfold zSeen
    rw [e62]; exact S
theorem p_holdsToken {σ : zs} (hn : n ≤ 28) {s t : Nat} (hs : s < 6) (ht : t < n) : ∃ σ' : zs, f_X8_holdsToken σ (nI s) (nI t) = some (bI (zbit (σ 6 t) s), σ') ∧ (if zbit (σ 6 t) s then σ' = σ else (zF3 σ σ' ∧ zRepC σ' [(1, nI t)])) := by
  rw [f_X8_holdsToken, zcl (by omega), zg_in _ (by omega) (by omega), p_hasBit _ _ (show s < 32 by omega), zb_s, bI_0]
  cases zbit (σ 6 t) s with
  | true => exact ⟨σ, rfl, rfl⟩
  | false =>
    obtain ⟨s1, g1, g2, g3⟩ := p_begin σ 1 (nI t)
    rw [if_neg (by decide), g1, zb_s]
    exact ⟨s1, rfl, g2, g3⟩
theorem p_isAllowed (hn : n ≤ 28) (h : ∀ t, t < n → RTk c m K t) {s t : Nat} (hs : s < 6) (ht : t < n) (r a : Int32) : zQask c (zask c s t r a) (f_X8_isAllowed c (nI s) (nI t) r a) := by
  obtain ⟨hl, hl1, hl7⟩ := zln_eq (h t ht)
  rw [f_X8_isAllowed]
  obtain ⟨s0, g1, g2⟩ := p_holdsToken (σ := c) hn hs ht
  rw [g1, zb_s, bI_0]
  unfold zask
  cases hb : zbit (c 6 t) s with
  | false =>
    rw [hb, if_neg (by decide)] at g2
    rw [if_neg (by decide), if_neg (by decide)]
    exact ⟨s0, rfl, zFa_3 g2.1, g2.2, by simp⟩
  | true =>
    rw [hb, if_pos rfl] at g2
    subst g2
    rw [if_pos rfl, if_pos rfl]
    rw [show zin (0 : Int32) 5 = true from by decide, show zin (1 : Int32) 5 = true from by decide, show zin (2 : Int32) 5 = true from by decide, show zin (4 : Int32) 5 = true from by decide, zg_t, zg_t, zg_t, zg_t]
    refine zli2 (Q := zQask s0 (zs1 (fun k => zlnk s0 (nI s) r a (zch s0 t k)) (zln s0 t))) (zln s0 t) (fun k w x y => x = nI t ∧ y = nI k ∧ zFa s0 w ∧ (∀ p, (p = 49 ∨ p = 50 ∨ p = 51) → w p = s0 p) ∧ zSeen s0 w (nI s) r a ∧ zs1 (fun k => zlnk s0 (nI s) r a (zch s0 t k)) k = none) ?_ ?_ 1000 (by omega) ⟨rfl, rfl, fun p _ _ _ p4 => by rw [zp_n _ _ _ p4, zp_n _ _ _ p4, zp_n _ _ _ p4, zp_n _ _ _ p4], fun p hp => by rw [zp_n _ _ _ (by omega), zp_n _ _ _ (by omega), zp_n _ _ _ (by omega), zp_n _ _ _ (by omega)], ?_, rfl⟩
    · rintro k hk w x y ⟨rfl, rfl, hf, hr, S, hno⟩ rec kk
      obtain ⟨e1, e2⟩ := zch_lt (h t ht) hk
      have hcs : ∀ p, 1 ≤ p → p ≤ 12 → w p = s0 p := fun p p1 p2 => hf p (by omega) (by omega) (by omega) (by omega)
      rw [f_X8_isAllowed_49]
      simp (disch := omega) only [hcs 4 (by decide) (by decide), hcs 5 (by decide) (by decide), zk7, nI_mul, nI_add, zg_in, zcl, hl, znI_le, e1, nI_1]
      rw [if_neg (by omega)]
      obtain ⟨w', k1, k2, k3, k4⟩ := p_linkAllows hn h hcs (l := zch s0 t k) (by omega) S
      rw [k1, zb_s, bI_0]
      cases hz : zlnk s0 (nI s) r a (zch s0 t k) with
      | none =>
        rw [hz] at k3
        exact kk _ _ _ ⟨rfl, rfl, zFa_trans hf k2, fun p hp => (k3 p hp).trans (hr p hp), k4, zs1_s hno hz⟩
      | some L =>
        rw [hz] at k3
        rw [zs1_hit hno hz hk]
        exact ⟨w', rfl, zFa_trans hf k2, k3⟩
    · rintro w x y ⟨rfl, rfl, hf, hr, S, hno⟩ rec
      have hcs : ∀ p, 1 ≤ p → p ≤ 12 → w p = s0 p := fun p p1 p2 => hf p (by omega) (by omega) (by omega) (by omega)
      rw [f_X8_isAllowed_49]
      simp (disch := omega) only [hcs 4 (by decide) (by decide), zg_in, zcl, hl, znI_le]
      rw [if_pos (Nat.le_refl _), hno]
      exact ⟨w, rfl, hf, hr⟩
    · simp only [zSeen, zp_rd]
      simp +decide
end PL
