/-! pass -/
def zxs (lim : Nat → Int32) (tm : Int32) (st : Nat × (Nat → Int32)) (t : Nat) : Nat × (Nat → Int32) := if lim t = tm then (st.1 + 1, upd st.2 st.1 (nI t)) else st
def zxu (lim : Nat → Int32) (n T : Nat) (st : Nat × (Nat → Int32)) (j : Nat) : Nat × (Nat → Int32) := zfold (zxs lim (nI (T + j + 1))) st n
def zxp (lim : Nat → Int32) (n T u : Nat) : Nat × (Nat → Int32) := zfold (zxu lim n T) (0, fun _ => 0) u
theorem zxs_1 (lim : Nat → Int32) (tm : Int32) (st : Nat × (Nat → Int32)) : ∀ i, (zfold (zxs lim tm) st i).1 = st.1 + zcnt (fun t => decide (lim t = tm)) i
  | 0 => rfl
  | i + 1 => by
    have ih := zxs_1 lim tm st i
    show (zxs lim tm (zfold (zxs lim tm) st i) i).1 = _
    unfold zxs
    by_cases w : lim i = tm
    · rw [if_pos w, zcnt, decide_eq_true w, if_pos rfl]
      show (zfold (zxs lim tm) st i).1 + 1 = _
      rw [ih]; omega
    · rw [if_neg w, zcnt, decide_eq_false w, if_neg (by decide)]
      exact ih
theorem zcnt_disj {p q : Nat → Bool} : ∀ {n : Nat}, (∀ t, t < n → p t = true → q t = true → False) → zcnt (fun t => p t || q t) n = zcnt p n + zcnt q n
  | 0, _ => rfl
  | n + 1, h => by
    have ih := zcnt_disj (p := p) (q := q) (n := n) (fun t ht => h t (Nat.lt_succ_of_lt ht))
    have hh := h n (Nat.lt_succ_self n)
    simp only [zcnt, ih]
    cases hp : p n <;> cases hq : q n
    · simp
    · simp; omega
    · simp; omega
    · exact absurd (hh hp hq) id
theorem zcnt_in {p : Nat → Bool} {i : Nat} (hp : p i = true) : ∀ {n : Nat}, i < n → zcnt p i < zcnt p n
  | 0, h => absurd h (by omega)
  | n + 1, h => by
    by_cases e : i = n
    · subst e; rw [zcnt, hp, if_pos rfl]; omega
    · have := zcnt_in hp (n := n) (by omega)
      rw [zcnt]; split <;> omega
def zxA (lim : Nat → Int32) (T j t : Nat) : Bool := zany (fun i => decide (lim t = nI (T + i + 1))) j
theorem zxA_no {lim : Nat → Int32} {T j t : Nat} (hj : T + j + 1 < 2147483648) (h : lim t = nI (T + j + 1)) : zxA lim T j t = false := by
  unfold zxA
  rw [zany_no]
  intro i hi
  refine decide_eq_false (fun e => ?_)
  rw [h, znI_inj (by omega) (by omega)] at e
  omega
theorem zxp_1 (lim : Nat → Int32) (n T : Nat) : ∀ j, T + j < 2147483648 → (zxp lim n T j).1 = zcnt (zxA lim T j) n
  | 0, _ => by
    show 0 = _
    have e : zcnt (zxA lim T 0) n = zcnt (fun _ => false) n := zcnt_cong (fun _ _ => rfl)
    rw [e]
    induction n with
    | zero => rfl
    | succ n ih => rw [zcnt]; exact ih (zcnt_cong (fun _ _ => rfl))
  | j + 1, hj => by
    have ih := zxp_1 lim n T j (by omega)
    show (zxu lim n T (zxp lim n T j) j).1 = _
    unfold zxu
    rw [zxs_1, ih]
    exact (zcnt_disj (p := zxA lim T j) (q := fun t => decide (lim t = nI (T + j + 1))) (fun t _ h1 h2 => by rw [zxA_no (by omega) (of_decide_eq_true h2)] at h1; cases h1)).symm
theorem zxp_b {lim : Nat → Int32} {n T j : Nat} (hj : T + j + 1 < 2147483648) : (zxp lim n T j).1 + zcnt (fun t => decide (lim t = nI (T + j + 1))) n ≤ n := by
  have h := zxp_1 lim n T (j + 1) (by omega)
  have h2 : (zxp lim n T (j + 1)).1 = (zxp lim n T j).1 + zcnt (fun t => decide (lim t = nI (T + j + 1))) n := zxs_1 lim (nI (T + j + 1)) (zxp lim n T j) n
  rw [← h2, h]; exact zcnt_le _ _
theorem RTk_c3 {c c' : zs} {m : Nat → Int32} {K t : Nat} (h : ∀ p, 3 ≤ p → p ≤ 12 → c' p = c p) (R : RTk c m K t) : RTk c' m K t := by
  simp only [RTk, zch, zln, h 3 (by decide) (by decide), h 4 (by decide) (by decide), h 5 (by decide) (by decide), h 6 (by decide) (by decide), h 7 (by decide) (by decide), h 8 (by decide) (by decide), h 9 (by decide) (by decide), h 10 (by decide) (by decide), h 11 (by decide) (by decide), h 12 (by decide) (by decide)] at R ⊢
  exact R
theorem zlim_c3 {c c' : zs} (h : ∀ p, 3 ≤ p → p ≤ 12 → c' p = c p) (t j : Nat) : zlim c' t j = zlim c t j := by
  have e : ∀ l v q, zstp c' j l v q = zstp c j l v q := fun l v q => by
    simp only [zstp, h 7 (by decide) (by decide), h 10 (by decide) (by decide), h 11 (by decide) (by decide), h 12 (by decide) (by decide)]
  have e2 : ∀ l, zstp c' j l = zstp c j l := fun l => funext (fun v => funext (fun q => e l v q))
  simp only [zlim, zch, zln, zcv, e2, h 4 (by decide) (by decide), h 5 (by decide) (by decide), h 9 (by decide) (by decide)]
section PU
variable {σ τ c : zs} {m : Nat → Int32} {K n : Nat}
def zQex (σ : zs) (n : Nat) (tm : Int32) (st : Nat × (Nat → Int32)) (x : Option (Int32 × zs)) : Prop := ∃ s : zs, x = some (0, s) ∧ (∀ p, p ≠ 1 → p ≠ 13 → p ≠ 24 → s p = σ p) ∧ s 1 5 = tm ∧ s 1 7 = nI (zfold (zxs (fun t => zlim σ t 1) tm) st n).1 ∧ ∀ i, i < (zfold (zxs (fun t => zlim σ t 1) tm) st n).1 → s 24 i = (zfold (zxs (fun t => zlim σ t 1) tm) st n).2 i
theorem p_expire (hn : n ≤ 28) (hc : σ 2 0 = nI n) (h : ∀ t, t < n → RTk σ m K t) {tm : Int32} {st : Nat × (Nat → Int32)} {s : zs} (hf : ∀ p, p ≠ 1 → p ≠ 13 → p ≠ 24 → s p = σ p) (h5 : s 1 5 = tm) (h7 : s 1 7 = nI st.1) (hr : ∀ i, i < st.1 → s 24 i = st.2 i)
    (hb : st.1 + zcnt (fun t => decide (zlim σ t 1 = tm)) n ≤ 28) : zQex σ n tm st (f_X6_expireAtPresent s) := by
  rw [f_X6_expireAtPresent, zi0]
  refine zli1 (Q := zQex σ n tm st) n (fun i s a => a = nI i ∧ (∀ p, p ≠ 1 → p ≠ 13 → p ≠ 24 → s p = σ p) ∧ s 1 5 = tm ∧ s 1 7 = nI (zfold (zxs (fun t => zlim σ t 1) tm) st i).1 ∧ ∀ k, k < (zfold (zxs (fun t => zlim σ t 1) tm) st i).1 → s 24 k = (zfold (zxs (fun t => zlim σ t 1) tm) st i).2 k) ?_ ?_ 1000 (by omega) ⟨rfl, hf, h5, h7, hr⟩
  · rintro i hi s a ⟨rfl, hf, h5, h7, hr⟩ rec kk
    have c3 : ∀ p, 3 ≤ p → p ≤ 12 → s p = σ p := fun p p1 p2 => hf p (by omega) (by omega) (by omega)
    obtain ⟨s1, g1, g2, g3⟩ := p_X7_limitsOf (σ := s) (m := m) (K := K) hn (fun t ht => RTk_c3 c3 (h t ht)) hi
    have g31 := g3 1 (by decide)
    rw [zlim_c3 c3] at g31
    have b1 := zxs_1 (fun t => zlim σ t 1) tm st i
    have b2 : zcnt (fun t => decide (zlim σ t 1 = tm)) i ≤ zcnt (fun t => decide (zlim σ t 1 = tm)) n := by
      by_cases w : decide (zlim σ i 1 = tm) = true
      · exact Nat.le_of_lt (zcnt_in (p := fun t => decide (zlim σ t 1 = tm)) w hi)
      · have : ∀ N, i ≤ N → zcnt (fun t => decide (zlim σ t 1 = tm)) i ≤ zcnt (fun t => decide (zlim σ t 1 = tm)) N := by
          intro N
          induction N with
          | zero => intro h; rw [show i = 0 by omega]; exact Nat.le_refl _
          | succ N ih =>
            intro h
            by_cases e : i = N + 1
            · rw [e]; exact Nat.le_refl _
            · have := ih (by omega)
              rw [zcnt]; split <;> omega
        exact this n (by omega)
    have hstep : zfold (zxs (fun t => zlim σ t 1) tm) st (i + 1) = zxs (fun t => zlim σ t 1) tm (zfold (zxs (fun t => zlim σ t 1) tm) st i) i := rfl
    generalize zfold (zxs (fun t => zlim σ t 1) tm) st i = st1 at h7 hr b1 hstep
    rw [f_X6_expireAtPresent_2, hf 2 (by decide) (by decide) (by decide), hc]
    simp (disch := omega) only [znI_le]
    rw [if_neg (by omega), g1, zb_s, g31, g2 1 (by decide), h5, h7, nI_1]
    by_cases w : zlim σ i 1 = tm
    · have b3 := zcnt_in (p := fun t => decide (zlim σ t 1 = tm)) (i := i) (decide_eq_true w) hi
      rw [if_pos w, if_neg (by rw [zk28, znI_le (by omega) (by omega)]; omega), zg_in _ (by omega) (by omega), zcl (by omega), zp_n _ _ _ (by decide), g2 1 (by decide), h7, nI_1]
      have hst : zxs (fun t => zlim σ t 1) tm st1 i = (st1.1 + 1, upd st1.2 st1.1 (nI i)) := if_pos w
      rw [hst] at hstep
      refine kk _ _ ⟨rfl, fun p p1 p2 p3 => by rw [zp_n _ _ _ p1, zp_n _ _ _ p3, g2 p p2]; exact hf p p1 p2 p3, ?_, ?_, fun k hk => ?_⟩
      · rw [zp_o _ _ (by decide), zp_n _ _ _ (by decide), g2 1 (by decide)]; exact h5
      · rw [hstep, zp_e]
      · rw [hstep] at hk ⊢
        have hk' : k < st1.1 + 1 := hk
        rw [zp_n _ _ _ (by decide), zp_k]
        show upd (s1 24) st1.1 (nI i) k = upd st1.2 st1.1 (nI i) k
        by_cases e : k = st1.1
        · subst e; rw [upd_s, upd_s]
        · rw [upd_n _ _ e, upd_n _ _ e, g2 24 (by decide)]; exact hr k (by omega)
    · have hst : zxs (fun t => zlim σ t 1) tm st1 i = st1 := if_neg w
      rw [hst] at hstep
      rw [if_neg w]
      refine kk _ _ ⟨rfl, fun p p1 p2 p3 => by rw [g2 p p2]; exact hf p p1 p2 p3, ?_, ?_, fun k hk => ?_⟩
      · rw [g2 1 (by decide)]; exact h5
      · rw [hstep, g2 1 (by decide)]; exact h7
      · rw [hstep] at hk ⊢
        rw [g2 24 (by decide)]; exact hr k hk
  · rintro s a ⟨rfl, hf, h5, h7, hr⟩ rec
    rw [f_X6_expireAtPresent_2, hf 2 (by decide) (by decide) (by decide), hc, if_pos (Int32.le_refl _)]
    exact ⟨s, rfl, hf, h5, h7, hr⟩
def zQps (σ : zs) (n T u : Nat) (x : Option zO) : Prop := ∃ s : zs, x = some (0, nI (zxp (fun t => zlim σ t 1) n T u).1, s) ∧ (∀ p, p ≠ 1 → p ≠ 13 → p ≠ 24 → s p = σ p) ∧ s 1 5 = nI (T + u) ∧ s 1 7 = nI (zxp (fun t => zlim σ t 1) n T u).1 ∧ ∀ i, i < (zxp (fun t => zlim σ t 1) n T u).1 → s 24 i = (zxp (fun t => zlim σ t 1) n T u).2 i
theorem p_pass (hn : n ≤ 28) (hc : σ 2 0 = nI n) (h : ∀ t, t < n → RTk σ m K t) {T u : Nat} (hT : T < 1000000) (h5 : σ 1 5 = nI T) (hu : u ≤ 100) : zQps σ n T u (zlp2 f_X8_pass_28 1000 (zp σ 1 7 0) (nI u) 0) := by
  rw [zi0]
  refine zli2 (Q := zQps σ n T u) u (fun j s a b => a = nI u ∧ b = nI j ∧ (∀ p, p ≠ 1 → p ≠ 13 → p ≠ 24 → s p = σ p) ∧ s 1 5 = nI (T + j) ∧ s 1 7 = nI (zxp (fun t => zlim σ t 1) n T j).1 ∧ ∀ i, i < (zxp (fun t => zlim σ t 1) n T j).1 → s 24 i = (zxp (fun t => zlim σ t 1) n T j).2 i) ?_ ?_ 1000 (by omega) ⟨rfl, rfl, fun p p1 _ _ => zp_n _ _ _ p1, by rw [zp_o _ _ (by decide)]; exact h5, zp_e _ _ _ _, fun i hi => absurd hi (by show ¬ i < 0; omega)⟩
  · rintro j hj s a b ⟨rfl, rfl, hf, h5, h7, hr⟩ rec kk
    have hb := zxp_b (lim := fun t => zlim σ t 1) (n := n) (T := T) (j := j) (by omega)
    rw [f_X8_pass_28, if_neg (by rw [znI_le (by omega) (by omega)]; omega), h5, nI_1]
    obtain ⟨s1, g1, g2, g3, g4, g5⟩ := p_expire (s := zp s 1 5 (nI (T + j + 1))) (tm := nI (T + j + 1)) (st := zxp (fun t => zlim σ t 1) n T j) hn hc h (fun p p1 p2 p3 => by rw [zp_n _ _ _ p1]; exact hf p p1 p2 p3) (zp_e _ _ _ _) (by rw [zp_o _ _ (by decide)]; exact h7) (fun i hi => by rw [zp_n _ _ _ (by decide)]; exact hr i hi) (by omega)
    rw [g1, zb_s, nI_1]
    exact kk _ _ _ ⟨rfl, rfl, g2, g3, g4, g5⟩
  · rintro s a b ⟨rfl, rfl, hf, h5, h7, hr⟩ rec
    rw [f_X8_pass_28, if_pos (Int32.le_refl _), h7]
    exact ⟨s, rfl, hf, h5, h7, hr⟩
theorem zend_tm {m : Nat → Int32} (hn : n ≤ 28) (h : ∀ t, t < n → RTk c m K t) {t v : Nat} (ht : t < n) (hv : v < 2147483647) : (zend c t = nI v) = (zlim c t 1 = nI v) := by
  rcases zend_lim hn h ht with ⟨a, b⟩ | ⟨a, b⟩
  · rw [a, b]
    apply propext
    constructor
    · intro e
      rw [show (2147483647 : Int32) = nI 2147483647 from rfl, znI_inj (by omega) (by omega)] at e
      omega
    · intro e; exact absurd e.symm (z_m1 (by omega))
  · rw [a]
def zQpm (τ c : zs) (n T u : Nat) (x : Option (Int32 × zs)) : Prop := ∃ s : zs, x = some (nI (zxp (fun t => zlim c t 1) n T u).1, s) ∧ (∀ p, p ≠ 66 → s p = τ p) ∧ s 66 0 = nI (T + u) ∧ s 66 599 = nI (zxp (fun t => zlim c t 1) n T u).1 ∧ (∀ i, i < (zxp (fun t => zlim c t 1) n T u).1 → s 66 (600 + i) = (zxp (fun t => zlim c t 1) n T u).2 i) ∧ ∀ j, (1 ≤ j ∧ j < 599) → s 66 j = τ 66 j
theorem m_pass (hn : n ≤ 28) (hm : τ 66 1 = nI n) (h : ∀ t, t < n → RTk c (τ 66) K t) {T u : Nat} (hT : T < 1000000) (h0 : τ 66 0 = nI T) (hu : u ≤ 100) : zQpm τ c n T u (zlp2 f_X9_pass_39 1000 (zp τ 66 599 0) (nI u) 0) := by
  rw [zi0]
  refine zli2 (Q := zQpm τ c n T u) u (fun j s a b => a = nI u ∧ b = nI j ∧ (∀ p, p ≠ 66 → s p = τ p) ∧ s 66 0 = nI (T + j) ∧ s 66 599 = nI (zxp (fun t => zlim c t 1) n T j).1 ∧ (∀ i, i < (zxp (fun t => zlim c t 1) n T j).1 → s 66 (600 + i) = (zxp (fun t => zlim c t 1) n T j).2 i) ∧ ∀ j, (1 ≤ j ∧ j < 599) → s 66 j = τ 66 j) ?_ ?_ 1000 (by omega) ⟨rfl, rfl, fun p p1 => zp_n _ _ _ p1, by rw [zp_o _ _ (by decide)]; exact h0, zp_e _ _ _ _, fun i hi => absurd hi (by show ¬ i < 0; omega), fun j hj => zp_o _ _ (by omega)⟩
  · rintro j hj s a b ⟨rfl, rfl, hf, h5, h7, hr, hk⟩ rec kk
    have hb := zxp_b (lim := fun t => zlim c t 1) (n := n) (T := T) (j := j) (by omega)
    have hj1 : zxp (fun t => zlim c t 1) n T (j + 1) = zfold (zxs (fun t => zlim c t 1) (nI (T + j + 1))) (zxp (fun t => zlim c t 1) n T j) n := rfl
    rw [f_X9_pass_39, if_neg (by rw [znI_le (by omega) (by omega)]; omega), zG0, zG0, zC0, h5, nI_1]
    generalize zxp (fun t => zlim c t 1) n T j = st at h7 hr hb hj1
    rw [zi0]
    refine zli3 (Q := zQpm τ c n T u) n (fun i s a b d => a = nI u ∧ b = nI j ∧ d = nI i ∧ (∀ p, p ≠ 66 → s p = τ p) ∧ s 66 0 = nI (T + j + 1) ∧ s 66 599 = nI (zfold (zxs (fun t => zlim c t 1) (nI (T + j + 1))) st i).1 ∧ (∀ k, k < (zfold (zxs (fun t => zlim c t 1) (nI (T + j + 1))) st i).1 → s 66 (600 + k) = (zfold (zxs (fun t => zlim c t 1) (nI (T + j + 1))) st i).2 k) ∧ ∀ j, (1 ≤ j ∧ j < 599) → s 66 j = τ 66 j) ?_ ?_ 1000 (by omega) ⟨rfl, rfl, rfl, fun p p1 => by rw [zp_n _ _ _ p1]; exact hf p p1, zp_e _ _ _ _, by rw [zp_o _ _ (by decide)]; exact h7, fun k hk2 => by rw [zp_o _ _ (by omega)]; exact hr k hk2, fun j hj => by rw [zp_o _ _ (by omega)]; exact hk j hj⟩
    · rintro i hi s a b d ⟨rfl, rfl, rfl, hf, h5, h7, hr, hk⟩ rec2 kk2
      have hs : ∀ t, t < n → RTk c (s 66) K t := fun t ht => RTk_more hn (Nat.le_refl K) ht (fun _ _ _ => rfl) (fun j hj => hk j (by omega)) (h t ht)
      have b1 := zxs_1 (fun t => zlim c t 1) (nI (T + j + 1)) st i
      have hstep : zfold (zxs (fun t => zlim c t 1) (nI (T + j + 1))) st (i + 1) = zxs (fun t => zlim c t 1) (nI (T + j + 1)) (zfold (zxs (fun t => zlim c t 1) (nI (T + j + 1))) st i) i := rfl
      generalize zfold (zxs (fun t => zlim c t 1) (nI (T + j + 1))) st i = st1 at h7 hr b1 hstep
      have he := zend_tm hn h hi (v := T + j + 1) (by omega)
      rw [f_X9_pass_56, zG1, zC1, hk 1 (by omega), hm]
      simp (disch := omega) only [znI_le]
      rw [if_neg (by omega), m_endOf hn hs hi, zb_s, zG0, zC0, h5, nI_1]
      by_cases w : zlim c i 1 = nI (T + j + 1)
      · have b3 := zcnt_in (p := fun t => decide (zlim c t 1 = nI (T + j + 1))) (i := i) (decide_eq_true w) hi
        have hst : zxs (fun t => zlim c t 1) (nI (T + j + 1)) st1 i = (st1.1 + 1, upd st1.2 st1.1 (nI i)) := if_pos w
        rw [hst] at hstep
        rw [if_pos (he.mpr w), zG599, zC599, h7]
        simp (disch := omega) only [zk600, nI_add, zg_in, zcl]
        rw [zG599, zG599, zp_o _ _ (by omega), h7, nI_1]
        refine kk2 _ _ _ _ ⟨rfl, rfl, rfl, fun p p1 => by rw [zp_n _ _ _ p1, zp_n _ _ _ p1]; exact hf p p1, ?_, ?_, fun k hk2 => ?_, fun j hj => ?_⟩
        · rw [zp_o _ _ (by decide), zp_o _ _ (by omega)]; exact h5
        · rw [hstep, zp_e]
        · rw [hstep] at hk2 ⊢
          have hk' : k < st1.1 + 1 := hk2
          rw [zp_o _ _ (by omega)]
          show zp s 66 (600 + st1.1) (nI i) 66 (600 + k) = upd st1.2 st1.1 (nI i) k
          by_cases e : k = st1.1
          · subst e; rw [zp_e, upd_s]
          · rw [zp_o _ _ (by omega), upd_n _ _ e]; exact hr k (by omega)
        · rw [zp_o _ _ (by omega), zp_o _ _ (by omega)]; exact hk j hj
      · have hst : zxs (fun t => zlim c t 1) (nI (T + j + 1)) st1 i = st1 := if_neg w
        rw [hst] at hstep
        rw [if_neg (fun x => w (he.mp x))]
        refine kk2 _ _ _ _ ⟨rfl, rfl, rfl, hf, h5, ?_, fun k hk2 => ?_, hk⟩
        · rw [hstep]; exact h7
        · rw [hstep] at hk2 ⊢
          exact hr k hk2
    · rintro s a b d ⟨rfl, rfl, rfl, hf, h5, h7, hr, hk⟩ rec2
      rw [f_X9_pass_56, zG1, zC1, hk 1 (by omega), hm, if_pos (Int32.le_refl _), nI_1]
      exact kk _ _ _ ⟨rfl, rfl, hf, h5, by rw [hj1]; exact h7, by rw [hj1]; exact hr, hk⟩
  · rintro s a b ⟨rfl, rfl, hf, h5, h7, hr, hk⟩ rec
    rw [f_X9_pass_39, if_pos (Int32.le_refl _), zG599, zC599, h7]
    exact ⟨s, rfl, hf, h5, h7, hr, hk⟩
theorem k_pass (hK : K < 1000) (R : RA σ K) (a : Int32) : zok (f_L_pass_0_75 σ a) (fun τ => f_X9_pass τ a) (K + 1) := by
  obtain ⟨n, hS⟩ := R.1
  have hS0 := hS
  obtain ⟨hn, ⟨hc, hm⟩, ht, hbx, hjn, hob, ⟨htm0, T, hT1, hT2, hT3⟩, hex⟩ := hS
  have out : ∀ (a : Int32), (a < 1 ∨ 100 < a) → zok (f_L_pass_0_75 σ a) (fun τ => f_X9_pass τ a) (K + 1) := by
    intro a ha
    refine zokq_e 1 1 R ⟨σ, 0, ?_, zQx_refl σ⟩ (fun _ => rfl) (by decide) (fun τ hv => ⟨zp τ 65 3 1, 0, ?_, zp_e _ _ _ _, zMx_3 _ _⟩)
    · rw [f_X8_pass]
      by_cases q : a < 1
      · rw [if_pos q]; rfl
      · rw [if_neg q, if_pos (ha.resolve_left q)]; rfl
    · rw [f_X9_pass, m_isIn_out τ ha, zb_s, if_pos rfl, f_X9_pass_16, zp_e, if_neg (by decide)]
  rcases zcase a (n := 101) (by omega) with ⟨u, hu, rfl⟩ | ho
  · by_cases hu0 : u = 0
    · exact out _ (Or.inl (by rw [hu0]; decide))
    · have u1 : ¬ nI u < (1 : Int32) := by rw [zk1, znI_lt (by omega) (by omega)]; omega
      have u2 : ¬ (100 : Int32) < nI u := by rw [zk100, znI_lt (by omega) (by omega)]; omega
      obtain ⟨s, g1, g2, g3, g4, g5⟩ := p_pass hn hc ht (T := T) (u := u) (by omega) hT3 (by omega)
      have e66 : ∀ r : Int32, (zp (zp s 75 0 r) 65 3 0) 66 = σ 66 := fun r => by rw [zp_n _ _ _ (by decide), zp_n _ _ _ (by decide), g2 66 (by decide) (by decide) (by decide)]
      obtain ⟨τ', w1, w2, w3, w4, w5, w6⟩ := m_pass (τ := zp (zp s 75 0 (nI (zxp (fun t => zlim σ t 1) n T u).1)) 65 3 0) (c := σ) (K := K) hn (by rw [e66]; exact hm) (by rw [e66]; exact ht) (T := T) (u := u) (by omega) (by rw [e66, htm0]; exact hT3) (by omega)
      have hle : (zxp (fun t => zlim σ t 1) n T u).1 ≤ 28 := by
        rw [zxp_1 _ _ _ _ (by omega)]; exact Nat.le_trans (zcnt_le _ _) hn
      generalize hX : zxp (fun t => zlim σ t 1) n T u = X at g1 g4 g5 w1 w2 w3 w4 w5 w6 hle
      have F : ∀ p, p ≠ 1 → p ≠ 13 → p ≠ 24 → p ≠ 65 → p ≠ 66 → p ≠ 75 → τ' p = σ p := fun p p1 p2 p3 p4 p5 p6 => by rw [w2 p p5, zp_n _ _ _ p4, zp_n _ _ _ p6, g2 p p1 p2 p3]
      have B : ∀ j, (1 ≤ j ∧ j < 599) → τ' 66 j = σ 66 j := fun j hj => by rw [w6 j hj, e66]
      refine zok_0 (r := nI X.1) (σ1 := s) (σ2 := τ') ?_ ?_ ?_ ?_ (RA_new (n := n) R (RS_asm (Nat.le_succ K) hS0 (fun p hp => F p (by omega) (by omega) (by omega) (by omega) (by omega) (by omega)) (fun j hj => B j (by omega)) (fun v hv => ?_) ?_ ?_ ?_ ?_ ⟨X.1, hle, ⟨?_, ?_⟩, fun i hi => ?_⟩) (fun p hp => F p (by omega) (by omega) (by omega) (by omega) (by omega) (by omega)) (fun j hj => ?_))
      · rw [f_X8_pass, if_neg u1, if_neg u2, f_X8_pass_16, f_X8_needArgument, if_neg (by decide), zx_0, f_X6_clearExpired, zb_s, g1]
      · show f_X9_pass _ _ = _
        rw [f_X9_pass, m_isIn_in _ (zle_nlt.mpr u1) (zle_nlt.mpr u2), zb_s, if_neg (by decide), f_X9_pass_16, zp_e, if_pos rfl, zG599, zC599]
        exact w1
      · rw [w2 65 (by decide), zp_e]
      · rw [w2 75 (by decide), zp_n _ _ _ (by decide)]
      · rw [B _ (by omega), F 7 (by decide) (by decide) (by decide) (by decide) (by decide) (by decide)]
        exact ⟨(RT_use (ht v hv)).1, zr_le (RT_use (ht v hv)).2 (by omega)⟩
      · exact RBx_cong (fun p hp => F p (by omega) (by omega) (by omega) (by omega) (by omega) (by omega)) (fun j hj => B j (by omega)) hbx
      · exact RJn_cong (fun p hp => F p (by omega) (by omega) (by omega) (by omega) (by omega) (by omega)) (fun j hj => B j (by omega)) hjn
      · exact ROb_cong (fun p hp => F p (by omega) (by omega) (by omega) (by omega) (by omega) (by omega)) (fun j hj => B j (by omega)) hob
      · unfold RTm
        rw [w3, w2 1 (by decide), zp_n _ _ _ (by decide), zp_n _ _ _ (by decide), g3]
        exact ⟨rfl, zr_i (by omega) (by omega)⟩
      · rw [w2 1 (by decide), zp_n _ _ _ (by decide), zp_n _ _ _ (by decide)]; exact g4
      · exact w4
      · rw [w5 i hi, w2 24 (by decide), zp_n _ _ _ (by decide), zp_n _ _ _ (by decide), g5 i hi]
      · rw [w2 65 (by decide), zp_o _ _ (by omega), zp_n _ _ _ (by decide), g2 65 (by decide) (by decide) (by decide)]
  · refine out a ?_
    rcases ho with q | q
    · left
      rw [Int32.lt_iff_toInt_lt] at q ⊢
      have e0 : (0 : Int32).toInt = 0 := by decide
      have e1 : (1 : Int32).toInt = 1 := by decide
      omega
    · right; exact z_gt (k := 100) (by decide) q
end PU
