/-! asking: the reference -/
theorem m_asked {τ c : zs} {K l q : Nat} (R : RTk c (τ 66) K l) (hl : l < 28) (hq : q < zcv c l) (h0 : τ 66 0 = c 1 5) (s r a : Int32) : f_X9_asked τ (nI l) (nI q) s r a = some (zlook c s r a l q, τ) := by
  obtain ⟨c1, c2⟩ := zcv_eq R
  have C := RTk_cv R hq
  have hus := (RT_use R).1
  rw [f_X9_asked, m_part0 τ hl (by omega), zb_s, C.1.1, zG0, zC0, h0]
  simp (disch := omega) only [zk163, nI_add, zg_in, zcl, hus]
  unfold zlook
  rcases zr5 C.2.1 with e | e | e | e | e <;> simp +decide only [e, ↓reduceIte]
def zFm (τ τ' : zs) : Prop := (∀ p, p ≠ 65 → p ≠ 69 → p ≠ 70 → p ≠ 71 → τ' p = τ p) ∧ ∀ j, j ≠ 10 → τ' 65 j = τ 65 j
theorem zFm_H {a b : zs} (h : zH3 a b) : zFm a b := ⟨fun p p1 _ p3 p4 => h.1 p p1 p3 p4, h.2⟩
theorem zFm_trans {a b d : zs} (h : zFm a b) (k : zFm b d) : zFm a d := ⟨fun p p1 p2 p3 p4 => (k.1 p p1 p2 p3 p4).trans (h.1 p p1 p2 p3 p4), fun j hj => (k.2 j hj).trans (h.2 j hj)⟩
theorem zFm_69 {a b : zs} (h : ∀ p, p ≠ 69 → b p = a p) : zFm a b := ⟨fun p _ p2 _ _ => h p p2, fun j _ => by rw [h 65 (by decide)]⟩
def zDenM (τ τ' : zs) (o : Option zL) : Prop := match o with
  | none => (∀ p, (p = 70 ∨ p = 71) → τ' p = τ p) ∧ τ' 65 10 = τ 65 10
  | some L => zRepM τ' L ∧ L.length ≤ 3
def zQalw (τ : zs) (o : Option zL) (x : Option (Int32 × zs)) : Prop := ∃ τ' : zs, x = some (bI (zIs o), τ') ∧ zFm τ τ' ∧ zDenM τ τ' o
theorem m_allows {τ c : zs} {K n : Nat} (hn : n ≤ 28) (h : ∀ t, t < n → RTk c (τ 66) K t) (h0 : τ 66 0 = c 1 5) {s t : Nat} (hs : s < 6) (ht : t < n) (r a : Int32) : zQalw τ (zask c s t r a) (f_X9_allows τ (nI s) (nI t) r a) := by
  obtain ⟨hl, hl1, hl7⟩ := zln_eq (h t ht)
  have hho := (RT_hold (h t ht)).1
  rw [f_X9_allows]
  simp (disch := omega) only [zk107, nI_add, zg_in, zcl, hho]
  rw [p_has _ _ (show s < 32 by omega), zb_s, bI_0]
  unfold zask
  cases hb : zbit (c 6 t) s with
  | false =>
    rw [if_neg (by decide), if_neg (by decide)]
    obtain ⟨s1, g1, g2, g3⟩ := m_reports τ 1 (nI t) 0
    rw [g1, zb_s]
    exact ⟨s1, rfl, zFm_H g2, g3, by simp⟩
  | true =>
    rw [if_pos rfl, if_pos rfl]
    obtain ⟨τ6, k1, k2, k3⟩ := m_chainOf hn h ht
    rw [k1, zb_s]
    have h6 : ∀ t, t < n → RTk c (τ6 66) K t := by rw [k2 66 (by decide)]; exact h
    have h06 : τ6 66 0 = c 1 5 := by rw [k2 66 (by decide)]; exact h0
    refine zli5 (Q := zQalw τ (zs1 (fun k => zlnk c (nI s) r a (zch c t k)) (zln c t))) (zln c t) (fun k w x y z u v => w = τ6 ∧ x = nI s ∧ y = r ∧ z = a ∧ u = nI (zln c t) ∧ v = nI k ∧ zs1 (fun k => zlnk c (nI s) r a (zch c t k)) k = none) ?_ ?_ 1000 (by omega) ⟨rfl, rfl, rfl, rfl, rfl, rfl, rfl⟩
    · rintro k hk w x y z u v ⟨rfl, rfl, rfl, rfl, rfl, rfl, hno⟩ rec kk
      have hch := zch_b hn h ht hk
      have R := h6 _ hch.1
      obtain ⟨c1, c2⟩ := zcv_eq R
      have hrev := RT_rev R
      have hcv := (RT_cav R).1
      rw [f_X9_allows_37]
      simp (disch := omega) only [zg_in, zcl, znI_le, k3 k hk, zk135, nI_add, hrev.1]
      rw [if_neg (by omega)]
      have hzn := z_neg hrev.2
      by_cases q8 : c 8 (zch c t k) = -1
      · rw [if_pos (show c 8 (zch c t k) < 0 by rw [hzn]; exact q8)]
        have hlk : zlnk c (nI s) y z (zch c t k) = zs1 (zlnkq c (nI s) y z (zch c t k)) (zcv c (zch c t k)) := by rw [zlnk, if_pos q8]
        refine zli7 (Q := zQalw τ (zs1 (fun k => zlnk c (nI s) y z (zch c t k)) (zln c t))) (zcv c (zch c t k)) (fun q w2 x2 y2 z2 u2 v2 l2 q2 => w2 = w ∧ x2 = nI s ∧ y2 = y ∧ z2 = z ∧ u2 = nI (zln c t) ∧ v2 = nI k ∧ l2 = nI (zch c t k) ∧ q2 = nI q ∧ zs1 (zlnkq c (nI s) y z (zch c t k)) q = none) ?_ ?_ 1000 (by omega) ⟨rfl, rfl, rfl, rfl, rfl, rfl, rfl, rfl, rfl⟩
        · rintro q hq w2 x2 y2 z2 u2 v2 l2 q2 ⟨rfl, rfl, rfl, rfl, rfl, rfl, rfl, rfl, hno2⟩ rec2 kk2
          rw [f_X9_allows_98]
          simp (disch := omega) only [zk191, nI_add, zg_in, zcl, hcv, c1, znI_le]
          rw [if_neg (by omega), m_holds R hch.2 hq h06, zb_s, bI_0, nI_1]
          cases hh : zhold c (nI s) y2 z2 (zch c t k) q with
          | true => exact kk2 _ _ _ _ _ _ _ _ ⟨rfl, rfl, rfl, rfl, rfl, rfl, rfl, rfl, zs1_s hno2 (by rw [zlnkq, hh]; rfl)⟩
          | false =>
            have hx := zs1_hit hno2 (show zlnkq c (nI s) y2 z2 (zch c t k) q = some _ by rw [zlnkq, hh]; rfl) hq
            rw [zs1_hit hno (hlk.trans hx) hk]
            obtain ⟨s1, g1, g2, g3⟩ := m_reports w2 4 (nI (zch c t k)) 0
            have e1 : s1 66 = w2 66 := g2.1 66 (by decide) (by decide) (by decide)
            have C := RTk_cv R hq
            rw [if_neg (by decide), g1, zb_s, m_part0 s1 hch.2 (by omega), zb_s, e1, C.1.1]
            obtain ⟨s2, g4, g5, g6⟩ := m_tells (by simp) g3 (10 + c 10 (zch c t k * 4 + q)) (nI q)
            have e2 : s2 66 = w2 66 := by rw [g5.1 66 (by decide) (by decide) (by decide), e1]
            rw [g4, zb_s, m_asked (by rw [e2]; exact R) hch.2 hq (by rw [e2]; exact h06), zb_s]
            obtain ⟨s3, g7, g8, g9⟩ := m_tells (by simp) g6 20 (zlook c (nI s) y2 z2 (zch c t k) q)
            rw [g7, zb_s]
            exact ⟨s3, rfl, zFm_trans (zFm_69 k2) (zFm_trans (zFm_H g2) (zFm_trans (zFm_H g5) (zFm_H g8))), g9, by simp⟩
        · rintro w2 x2 y2 z2 u2 v2 l2 q2 ⟨rfl, rfl, rfl, rfl, rfl, rfl, rfl, rfl, hno2⟩ rec2
          rw [f_X9_allows_98]
          simp (disch := omega) only [zk191, nI_add, zg_in, zcl, hcv, c1, znI_le]
          rw [if_pos (Nat.le_refl _), nI_1]
          exact kk _ _ _ _ _ _ ⟨rfl, rfl, rfl, rfl, rfl, rfl, zs1_s hno (hlk.trans hno2)⟩
      · rw [if_neg (show ¬ c 8 (zch c t k) < 0 by rw [hzn]; exact q8), zs1_hit hno (show zlnk c (nI s) y z (zch c t k) = some _ by rw [zlnk, if_neg q8]) hk]
        obtain ⟨s1, g1, g2, g3⟩ := m_reports w 2 (nI (zch c t k)) 0
        have e1 : s1 66 = w 66 := g2.1 66 (by decide) (by decide) (by decide)
        rw [g1, zb_s, e1, hrev.1]
        obtain ⟨s2, g4, g5, g6⟩ := m_tells (by simp) g3 3 (c 8 (zch c t k))
        rw [g4, zb_s]
        exact ⟨s2, rfl, zFm_trans (zFm_69 k2) (zFm_trans (zFm_H g2) (zFm_H g5)), g6, by simp⟩
    · rintro w x y z u v ⟨rfl, rfl, rfl, rfl, rfl, rfl, hno⟩ rec
      rw [f_X9_allows_37, if_pos (by exact Int32.le_refl _), hno]
      exact ⟨w, rfl, zFm_69 k2, fun p hp => k2 p (by omega), by rw [k2 65 (by decide)]⟩
/-! new worlds -/
theorem RTk_upd {c c' : zs} {m m' : Nat → Int32} {K K' t : Nat} (ht : t < 28) (hc : ∀ p, (3 ≤ p ∧ p ≤ 12 ∧ p ≠ 6 ∧ p ≠ 7 ∧ p ≠ 8) → c' p = c p) (hm : ∀ j, ((51 ≤ j ∧ j < 107) ∨ (191 ≤ j ∧ j < 555)) → m' j = m j) (R : RTk c m K t)
    (h6 : m' (107 + t) = c' 6 t ∧ zr (c' 6 t) 64) (h7 : m' (163 + t) = c' 7 t ∧ zr (c' 7 t) (K' + 1)) (h8 : m' (135 + t) = c' 8 t ∧ (c' 8 t = -1 ∨ zr (c' 8 t) 6)) : RTk c' m' K' t := by
  obtain ⟨c1, c2⟩ := zcv_eq R
  obtain ⟨a1, a2, a3, a4, -, -, -, a5, a6⟩ := R
  have z4 : ∀ t, zln c' t = zln c t := fun t => by rw [zln, zln, hc 4 (by decide)]
  have z5 : ∀ t k, zch c' t k = zch c t k := fun t k => by rw [zch, zch, hc 5 (by decide)]
  refine ⟨?_, ?_, ?_, ?_, h6, h7, h8, ?_, ?_⟩
  · rw [hm _ (by omega), hc 3 (by decide)]; exact a1
  · rw [hc 4 (by decide), z4]; exact a2
  · simp only [z4, z5, hc 5 (by decide)]; exact a3
  · simp only [z4, z5, hm (79 + t) (by omega)]; exact a4
  · rw [hm _ (by omega), hc 9 (by decide)]; exact a5
  · rw [hc 9 (by decide)]
    intro q hq
    have hq4 : q < 4 := Nat.lt_of_lt_of_le hq (show zN (c 9 t) ≤ 4 from c2)
    rw [hm _ (by omega), hm _ (by omega), hm _ (by omega), hc 10 (by decide), hc 11 (by decide), hc 12 (by decide)]
    exact a6 q hq
theorem RBx_cong {c c' : zs} {m m' : Nat → Int32} {n : Nat} (hc : ∀ p, (14 ≤ p ∧ p ≤ 19) → c' p = c p) (hm : ∀ j, (j = 2 ∨ j = 3 ∨ (555 ≤ j ∧ j < 599)) → m' j = m j) (R : RBx c m n) : RBx c' m' n := by
  obtain ⟨np, nx, h1, h2, h3, h4, h5, h6⟩ := R
  refine ⟨np, nx, h1, h2, by rw [hc 14 (by decide), hm 2 (by decide)]; exact h3, by rw [hc 14 (by decide), hm 3 (by decide)]; exact h4, fun i hi => ?_, fun i hi => ?_⟩
  · rw [hc 15 (by decide), hc 16 (by decide), hm (555 + i) (by omega), hm (559 + i) (by omega)]; exact h5 i hi
  · rw [hc 17 (by decide), hc 18 (by decide), hc 19 (by decide), hm (563 + i) (by omega), hm (575 + i) (by omega), hm (587 + i) (by omega)]; exact h6 i hi
theorem RJn_cong {c c' : zs} {m m' : Nat → Int32} (hc : ∀ p, (p = 20 ∨ p = 21) → c' p = c p) (hm : ∀ j, (4 ≤ j ∧ j < 27) → m' j = m j) (R : RJn c m) : RJn c' m' := by
  obtain ⟨ne, h1, h2, h3, h4, h5⟩ := R
  refine ⟨ne, h1, by rw [hc 20 (by decide), hm 6 (by decide)]; exact h2, by rw [hc 20 (by decide), hm 4 (by decide), hm 5 (by decide)]; exact h3, fun i hi => ?_, by rw [hc 21 (by decide)]; exact h5⟩
  rw [hm (7 + i) (by omega), hc 21 (by decide)]; exact h4 i hi
theorem ROb_cong {c c' : zs} {m m' : Nat → Int32} (hc : ∀ p, (p = 22 ∨ p = 23) → c' p = c p) (hm : ∀ j, (27 ≤ j ∧ j < 51) → m' j = m j) (R : ROb c m) : ROb c' m' := by
  intro i hi
  rw [hm (27 + i) (by omega), hm (39 + i) (by omega), hc 22 (by decide), hc 23 (by decide)]; exact R i hi
theorem RTm_cong {c c' : zs} {m m' : Nat → Int32} {K K' : Nat} (hK : K ≤ K') (hc : c' 1 5 = c 1 5) (hm : m' 0 = m 0) (R : RTm c m K) : RTm c' m' K' := by
  unfold RTm at *
  rw [hc, hm]; exact ⟨R.1, zr_le R.2 (by omega)⟩
theorem REx_cong {c c' : zs} {m m' : Nat → Int32} (hc : c' 1 7 = c 1 7) (hc2 : c' 24 = c 24) (hm : ∀ j, (599 ≤ j ∧ j < 628) → m' j = m j) (R : REx c m) : REx c' m' := by
  obtain ⟨ne, h1, h2, h3⟩ := R
  refine ⟨ne, h1, by rw [hc, hm 599 (by decide)]; exact h2, fun i hi => ?_⟩
  rw [hm (600 + i) (by omega), hc2]; exact h3 i hi
/-- tokens' holders, uses and revokers anew; the rest stays -/
theorem RS_tok {c c' : zs} {m m' : Nat → Int32} {K K' n : Nat} (hK : K ≤ K') (R : RS c m K n) (hc : ∀ p, (1 ≤ p ∧ p ≤ 24 ∧ p ≠ 13 ∧ p ≠ 6 ∧ p ≠ 7 ∧ p ≠ 8) → c' p = c p) (hm : ∀ j, (j < 107 ∨ (191 ≤ j ∧ j < 628)) → m' j = m j)
    (h : ∀ t, t < n → (m' (107 + t) = c' 6 t ∧ zr (c' 6 t) 64) ∧ (m' (163 + t) = c' 7 t ∧ zr (c' 7 t) (K' + 1)) ∧ (m' (135 + t) = c' 8 t ∧ (c' 8 t = -1 ∨ zr (c' 8 t) 6))) : RS c' m' K' n := by
  obtain ⟨a1, a2, a3, a4, a5, a6, a7, a8⟩ := R
  refine ⟨a1, by rw [hc 2 (by decide), hm 1 (by decide)]; exact a2, fun t ht => RTk_upd (by omega) (fun p hp => hc p (by omega)) (fun j hj => hm j (by omega)) (a3 t ht) (h t ht).1 (h t ht).2.1 (h t ht).2.2, ?_, ?_, ?_, ?_, ?_⟩
  · exact RBx_cong (fun p hp => hc p (by omega)) (fun j hj => hm j (by omega)) a4
  · exact RJn_cong (fun p hp => hc p (by omega)) (fun j hj => hm j (by omega)) a5
  · exact ROb_cong (fun p hp => hc p (by omega)) (fun j hj => hm j (by omega)) a6
  · exact RTm_cong hK (by rw [hc 1 (by decide)]) (hm 0 (by omega)) a7
  · exact REx_cong (by rw [hc 1 (by decide)]) (hc 24 (by decide)) (fun j hj => hm j (by omega)) a8
/-- the boxes anew; the rest stays -/
theorem RS_box {c c' : zs} {m m' : Nat → Int32} {K K' n : Nat} (hK : K ≤ K') (R : RS c m K n) (hc : ∀ p, (1 ≤ p ∧ p ≤ 24 ∧ p ≠ 13 ∧ (p < 14 ∨ 19 < p)) → c' p = c p) (hm : ∀ j, (j < 2 ∨ (4 ≤ j ∧ j < 555) ∨ (599 ≤ j ∧ j < 628)) → m' j = m j) (hB : RBx c' m' n) : RS c' m' K' n := by
  obtain ⟨a1, a2, a3, a4, a5, a6, a7, a8⟩ := R
  refine ⟨a1, by rw [hc 2 (by decide), hm 1 (by decide)]; exact a2, fun t ht => ?_, hB, ?_, ?_, ?_, ?_⟩
  · have R := RTk_mono hK (a3 t ht)
    refine RTk_upd (by omega) (fun p hp => hc p (by omega)) (fun j hj => hm j (by omega)) R ?_ ?_ ?_
    · rw [hm _ (by omega), hc 6 (by decide)]; exact RT_hold R
    · rw [hm _ (by omega), hc 7 (by decide)]; exact RT_use R
    · rw [hm _ (by omega), hc 8 (by decide)]; exact RT_rev R
  · exact RJn_cong (fun p hp => hc p (by omega)) (fun j hj => hm j (by omega)) a5
  · exact ROb_cong (fun p hp => hc p (by omega)) (fun j hj => hm j (by omega)) a6
  · exact RTm_cong hK (by rw [hc 1 (by decide)]) (hm 0 (by omega)) a7
  · exact REx_cong (by rw [hc 1 (by decide)]) (hc 24 (by decide)) (fun j hj => hm j (by omega)) a8
/-- the whole world anew -/
theorem RA_new {σ σ' : zs} {K n : Nat} (R : RA σ K) (hS : RS σ' (σ' 66) (K + 1) n) (hf : ∀ p, (p = 0 ∨ (25 ≤ p ∧ p ≤ 53) ∨ p = 63 ∨ p = 67 ∨ p = 68 ∨ p = 70 ∨ p = 71) → σ' p = σ p) (hj : ∀ j, (j = 2 ∨ j = 5 ∨ j = 6 ∨ j = 10) → σ' 65 j = σ 65 j) : RA σ' (K + 1) := by
  obtain ⟨-, a2, a3, a4, a5⟩ := R
  refine ⟨⟨n, hS⟩, RKp_mono (Nat.le_succ K) (RKp_cong ⟨fun p hp => hf p (by omega), hj 2 (by decide)⟩ a2), ?_, ?_, ?_⟩
  · simp only [RRp, hf 49 (by decide), hf 50 (by decide), hf 51 (by decide), hf 70 (by decide), hf 71 (by decide), hj 10 (by decide)] at a3 ⊢
    exact a3
  · simp only [RTx, hf 52 (by decide), hf 53 (by decide), hf 68 (by decide), hj 5 (by decide), hj 6 (by decide)] at a4 ⊢
    exact a4
  · simp only [RSB, hf 63 (by decide)] at a5 ⊢
    exact a5
/-- a report anew, and perhaps the state -/
theorem RA_rep {σ σ' : zs} {K n : Nat} (R : RA σ K) (hS : RS σ' (σ' 66) (K + 1) n) (hf : ∀ p, (p = 0 ∨ (25 ≤ p ∧ p ≤ 48) ∨ p = 52 ∨ p = 53 ∨ p = 63 ∨ p = 67 ∨ p = 68) → σ' p = σ p) (hj : ∀ j, (j = 2 ∨ j = 5 ∨ j = 6) → σ' 65 j = σ 65 j) (hr : RRp σ') : RA σ' (K + 1) := by
  obtain ⟨-, a2, a3, a4, a5⟩ := R
  refine ⟨⟨n, hS⟩, RKp_mono (Nat.le_succ K) (RKp_cong ⟨fun p hp => hf p (by omega), hj 2 (by decide)⟩ a2), hr, ?_, ?_⟩
  · simp only [RTx, hf 52 (by decide), hf 53 (by decide), hf 68 (by decide), hj 5 (by decide), hj 6 (by decide)] at a4 ⊢
    exact a4
  · simp only [RSB, hf 63 (by decide)] at a5 ⊢
    exact a5
