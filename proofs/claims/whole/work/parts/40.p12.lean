/-! the calls that change nothing, going on -/
theorem zcnt_mono {p q : Nat → Bool} : ∀ {n : Nat}, (∀ i, i < n → p i = true → q i = true) → zcnt p n ≤ zcnt q n
  | 0, _ => Nat.le_refl _
  | n + 1, h => by
    have ih := zcnt_mono (p := p) (q := q) (n := n) (fun i hi => h i (Nat.lt_succ_of_lt hi))
    have hn := h n (Nat.lt_succ_self n)
    simp only [zcnt]
    cases hp : p n with
    | false => rw [if_neg (by decide)]; split <;> omega
    | true => rw [if_pos rfl, if_pos (hn hp)]; omega
theorem zcnt_less {p q : Nat → Bool} : ∀ {n : Nat}, (∀ i, i < n → p i = true → q i = true) → ∀ k, k < n → q k = true → p k = false → zcnt p n < zcnt q n
  | 0, _, k, hk, _, _ => absurd hk (by omega)
  | n + 1, h, k, hk, hq, hp => by
    have hm := zcnt_mono (p := p) (q := q) (n := n) (fun i hi => h i (Nat.lt_succ_of_lt hi))
    have hn := h n (Nat.lt_succ_self n)
    simp only [zcnt]
    by_cases e : k = n
    · subst e
      rw [hp, hq, if_neg (by decide), if_pos rfl]; omega
    · have ih := zcnt_less (p := p) (q := q) (n := n) (fun i hi => h i (Nat.lt_succ_of_lt hi)) k (by omega) hq hp
      cases hpn : p n with
      | false => rw [if_neg (by decide)]; split <;> omega
      | true => rw [if_pos rfl, if_pos (hn hpn)]; omega
theorem zcnt_all : ∀ n, zcnt (fun _ => true) n = n
  | 0 => rfl
  | n + 1 => by rw [zcnt, if_pos rfl, zcnt_all n]
/-- what is one to one within the first n numbers reaches them all -/
theorem zpigeon : ∀ (n : Nat) (f : Nat → Nat), (∀ i, i < n → f i < n) → (∀ i j, i < n → j < n → f i = f j → i = j) → ∀ k, k < n → ∃ i, i < n ∧ f i = k
  | 0, _, _, _, k, hk => absurd hk (by omega)
  | n + 1, f, hf, hi, k, hk => by
    have hm := hf n (Nat.lt_succ_self n)
    have hne : ∀ i, i < n → f i ≠ f n := fun i h e => by have := hi i n (by omega) (by omega) e; omega
    have ih := zpigeon n (fun i => if f i = n then f n else f i) (fun i h => by
      have h1 := hf i (by omega)
      have h2 := hne i h
      show (if f i = n then f n else f i) < n
      split <;> omega) (fun i j h1 h2 e => by
      have e' : (if f i = n then f n else f i) = (if f j = n then f n else f j) := e
      have a := hne i h1
      have b := hne j h2
      refine hi i j (by omega) (by omega) ?_
      split at e' <;> split at e' <;> omega)
    by_cases e : k = f n
    · exact ⟨n, by omega, e.symm⟩
    · by_cases e2 : k = n
      · obtain ⟨i, h1, h2⟩ := ih (f n) (by omega)
        have h2' : (if f i = n then f n else f i) = f n := h2
        have := hne i h1
        refine ⟨i, by omega, ?_⟩
        split at h2' <;> omega
      · obtain ⟨i, h1, h2⟩ := ih k (by omega)
        have h2' : (if f i = n then f n else f i) = k := h2
        refine ⟨i, by omega, ?_⟩
        split at h2' <;> omega
theorem zcb_iff (c : zs) (a b : Nat) : zcb c a b = true ↔ ((c 3 a).toInt < (c 3 b).toInt ∨ ((c 3 a).toInt = (c 3 b).toInt ∧ (zln c b < zln c a ∨ (zln c a = zln c b ∧ a < b)))) := by
  unfold zcb
  have t : c 3 a = c 3 b ↔ (c 3 a).toInt = (c 3 b).toInt := by rw [Int32.toInt_inj]
  by_cases h : c 3 a = c 3 b
  · have h' := t.mp h
    rw [if_pos h]
    by_cases w : zln c a = zln c b
    · rw [if_pos w, decide_eq_true_iff]; omega
    · rw [if_neg w, decide_eq_true_iff]; omega
  · have h' := fun e => h (t.mpr e)
    rw [if_neg h, decide_eq_true_iff, Int32.lt_iff_toInt_lt]
    exact ⟨fun z => Or.inl z, fun z => z.elim id (fun y => absurd y.1 h')⟩
theorem zcb_irr (c : zs) (a : Nat) : zcb c a a = false := by
  cases e : zcb c a a with
  | false => rfl
  | true => have := (zcb_iff c a a).mp e; omega
def zrk (c : zs) (n k : Nat) : Nat := zcnt (fun t => zcb c t k) n
theorem zrk_lt (c : zs) (n : Nat) {k : Nat} (hk : k < n) : zrk c n k < n := by
  have := zcnt_less (p := fun t => zcb c t k) (q := fun _ => true) (n := n) (fun _ _ _ => rfl) k hk rfl (zcb_irr c k)
  rw [zcnt_all] at this; exact this
theorem zrk_less (c : zs) (n : Nat) {a b : Nat} (ha : a < n) (h : zcb c a b = true) : zrk c n a < zrk c n b := by
  refine zcnt_less (fun i _ hi => ?_) a ha h (zcb_irr c a)
  rw [zcb_iff] at *
  omega
theorem zrk_inj (c : zs) (n : Nat) : ∀ i j, i < n → j < n → zrk c n i = zrk c n j → i = j := by
  intro i j hi hj e
  by_cases q : i = j
  · exact q
  · exfalso
    by_cases w : zcb c i j = true
    · have := zrk_less c n hi w; omega
    · have w2 : zcb c j i = true := by
        rw [zcb_iff] at *
        omega
      have := zrk_less c n hj w2; omega
theorem zrk_on (c : zs) (n : Nat) {k : Nat} (hk : k < n) : ∃ i, i < n ∧ zrk c n i = k := zpigeon n (zrk c n) (fun _ hi => zrk_lt c n hi) (zrk_inj c n) k hk
def zQrk (k : Nat) (τ : zs) (x : Option (Int32 × zs)) : Prop := ∃ τ' : zs, x = some (nI k, τ') ∧ ∀ p, p ≠ 69 → τ' p = τ p
theorem m_ranked {τ c : zs} {K n : Nat} (hn : n ≤ 28) (hc : τ 66 1 = nI n) (h : ∀ t, t < n → RTk c (τ 66) K t) (h3 : τ 65 3 = 0) {k : Nat} (hk : k < n) (r : Nat) (hr : zrk c n k = r) : zQrk k τ (zlp2 f_X9_ranked_19 1000 τ (nI r) 0) := by
  have hrn : r < n := by rw [← hr]; exact zrk_lt c n hk
  have hfirst : ∀ j, j < k → zrk c n j ≠ r := fun j hj e => by have := zrk_inj c n j k (by omega) hk (by rw [e, hr]); omega
  refine zli2 (Q := zQrk k τ) k (fun i s a b => a = nI r ∧ b = nI i ∧ ∀ p, p ≠ 69 → s p = τ p) ?_ ?_ 1000 (by omega) ⟨rfl, rfl, fun _ _ => rfl⟩
  all_goals
    first
    | rintro i hi s a b ⟨rfl, rfl, hf⟩ rec kk
    | rintro s a b ⟨rfl, rfl, hf⟩ rec
  · have hin : i < n := by omega
    rw [f_X9_ranked_19, hf 65 (by decide), h3, if_pos rfl, zG1, zC1, hf 66 (by decide), hc, if_neg (znle hin (by omega))]
    refine zli4 (Q := zQrk k τ) n (fun o s a b d e => a = nI r ∧ b = nI i ∧ d = nI (zcnt (fun t => zcb c t i) o) ∧ e = nI o ∧ ∀ p, p ≠ 69 → s p = τ p) ?_ ?_ 1000 (by omega) ⟨rfl, rfl, rfl, rfl, hf⟩
    · rintro o ho s a b d e ⟨rfl, rfl, rfl, rfl, hf⟩ rec2 kk2
      rw [f_X9_ranked_41, zG1, zC1, hf 66 (by decide), hc, if_neg (znle ho (by omega))]
      have hs : ∀ t, t < n → RTk c (s 66) K t := by rw [hf 66 (by decide)]; exact h
      by_cases q : o = i
      · subst q
        rw [if_pos rfl, f_X9_ranked_74, nI_1]
        refine kk2 _ _ _ _ _ ⟨rfl, rfl, ?_, rfl, hf⟩
        rw [zcnt, zcb_irr]; simp
      · rw [if_neg (by rw [znI_inj (by omega) (by omega)]; exact q)]
        obtain ⟨s', g1, g2⟩ := m_isAhead hn hs ho hin
        rw [g1, zb_s, bI_0, f_X9_ranked_74, f_X9_ranked_74, nI_1, nI_1]
        have hf' : ∀ p, p ≠ 69 → s' p = τ p := fun p hp => (g2 p hp).trans (hf p hp)
        cases hz : zcb c o i with
        | true => exact kk2 _ _ _ _ _ ⟨rfl, rfl, by rw [zcnt, hz, if_pos rfl], rfl, hf'⟩
        | false => exact kk2 _ _ _ _ _ ⟨rfl, rfl, by rw [zcnt, hz, if_neg (by decide)]; simp, rfl, hf'⟩
    · rintro s a b d e ⟨rfl, rfl, rfl, rfl, hf⟩ rec2
      rw [f_X9_ranked_41, zG1, zC1, hf 66 (by decide), hc, if_pos (by exact Int32.le_refl _), if_neg, nI_1]
      · exact kk _ _ _ ⟨rfl, rfl, hf⟩
      · have hx := zrk_lt c n hin
        show ¬ nI (zrk c n i) = nI r
        rw [znI_inj (by omega) (by omega)]
        exact hfirst i hi
  · rw [f_X9_ranked_19, hf 65 (by decide), h3, if_pos rfl, zG1, zC1, hf 66 (by decide), hc, if_neg (znle hk (by omega))]
    refine zli4 (Q := zQrk k τ) n (fun o s a b d e => a = nI r ∧ b = nI k ∧ d = nI (zcnt (fun t => zcb c t k) o) ∧ e = nI o ∧ ∀ p, p ≠ 69 → s p = τ p) ?_ ?_ 1000 (by omega) ⟨rfl, rfl, rfl, rfl, hf⟩
    · rintro o ho s a b d e ⟨rfl, rfl, rfl, rfl, hf⟩ rec2 kk2
      rw [f_X9_ranked_41, zG1, zC1, hf 66 (by decide), hc, if_neg (znle ho (by omega))]
      have hs : ∀ t, t < n → RTk c (s 66) K t := by rw [hf 66 (by decide)]; exact h
      by_cases q : o = k
      · subst q
        rw [if_pos rfl, f_X9_ranked_74, nI_1]
        refine kk2 _ _ _ _ _ ⟨rfl, rfl, ?_, rfl, hf⟩
        rw [zcnt, zcb_irr]; simp
      · rw [if_neg (by rw [znI_inj (by omega) (by omega)]; exact q)]
        obtain ⟨s', g1, g2⟩ := m_isAhead hn hs ho hk
        rw [g1, zb_s, bI_0, f_X9_ranked_74, f_X9_ranked_74, nI_1, nI_1]
        have hf' : ∀ p, p ≠ 69 → s' p = τ p := fun p hp => (g2 p hp).trans (hf p hp)
        cases hz : zcb c o k with
        | true => exact kk2 _ _ _ _ _ ⟨rfl, rfl, by rw [zcnt, hz, if_pos rfl], rfl, hf'⟩
        | false => exact kk2 _ _ _ _ _ ⟨rfl, rfl, by rw [zcnt, hz, if_neg (by decide)]; simp, rfl, hf'⟩
    · rintro s a b d e ⟨rfl, rfl, rfl, rfl, hf⟩ rec2
      rw [f_X9_ranked_41, zG1, zC1, hf 66 (by decide), hc, if_pos (by exact Int32.le_refl _), if_pos (by rw [← hr]; rfl)]
      exact ⟨s, rfl, hf⟩
section PK
variable {σ : zs} {K : Nat}
theorem k_ranked (R : RA σ K) (a : Int32) : zok (f_L_ranked_0_75 σ a) (fun τ => f_X9_ranked τ a) (K + 1) := by
  obtain ⟨n, hn, ⟨hc, hm⟩, ht, hbx, hjn, hob, htm, hex⟩ := R.1
  rcases zcase a (n := n) (by omega) with ⟨r, h, rfl⟩ | ho
  · obtain ⟨k, hk, hr⟩ := zrk_on σ n h
    rcases p_X7_withRank hn hc ht (nI r) with ⟨k2, hk2, e1, e2, e3⟩ | ⟨e1, e2⟩
    · have hkk : k2 = k := by
        refine zrk_inj σ n k2 k hk2 hk ?_
        have x1 := zrk_lt σ n hk2
        have e1' : nI (zrk σ n k2) = nI r := e1
        rw [znI_inj (by omega) (by omega)] at e1'
        omega
      subst hkk
      refine zokq_0 (r := nI k2) R ⟨σ, ?_, zQx_refl σ⟩ (fun τ hv => ?_)
      · rw [f_X8_ranked, e3, zb_s, if_neg (z_m1 (by omega))]; rfl
      · have e := hv 66 (by decide) (by decide)
        have ew : (zp τ 65 3 0) 66 = σ 66 := by rw [zp_n _ _ _ (by decide), e]
        obtain ⟨τ', g1, g2⟩ := m_ranked (τ := zp τ 65 3 0) (c := σ) (K := K) hn (by rw [ew]; exact hm) (by rw [ew]; exact ht) (zp_e _ _ _ _) hk2 r hr
        refine ⟨τ', ?_, by rw [g2 65 (by decide), zp_e], zMx_trans (zMx_3 τ 0) ⟨fun p hp => g2 p (by omega), fun j hj => by rw [g2 65 (by decide)]⟩⟩
        rw [f_X9_ranked, m_tok_in (by rw [e]; exact hm) hn h, zb_s, if_neg (by decide), f_X9_ranked_14]
        exact g1
    · exfalso
      refine e1 k hk ?_
      show nI (zrk σ n k) = nI r
      rw [hr]
  · refine zokq_e 4 1 R ⟨σ, 0, ?_, zQx_refl σ⟩ (fun _ => rfl) (by decide) (fun τ hv => ⟨zp τ 65 3 1, 0, ?_, zp_e _ _ _ _, zMx_3 _ _⟩)
    · rcases p_X7_withRank hn hc ht a with ⟨k2, hk2, e1, e2, e3⟩ | ⟨e1, e2⟩
      · exfalso
        have x1 := zrk_lt σ n hk2
        have e1' : nI (zrk σ n k2) = a := e1
        rw [← e1'] at ho
        rcases ho with ho | ho
        · exact zlt0 (by omega) ho
        · exact znle x1 (by omega) ho
      · rw [f_X8_ranked, e2, zb_s, if_pos rfl]; rfl
    · have e := hv 66 (by decide) (by decide)
      rw [f_X9_ranked, m_tok_out (by rw [e]; exact hm) hn ho, zb_s, if_pos rfl, f_X9_ranked_14]
      refine zlr2 0 (fun _ => zp τ 65 3 1) (fun _ => a) (fun _ => 0) (fun i hi => absurd hi (by omega)) (fun rec => ?_) 1000 (by omega)
      rw [f_X9_ranked_19, zp_e, if_neg (by decide)]
theorem k_left (R : RA σ K) (a b : Int32) : zok (f_L_left_0_75 σ a b) (fun τ => f_X9_left τ a b) (K + 1) := by
  obtain ⟨n, hn, ⟨hc, hm⟩, ht, hbx, hjn, hob, htm, hex⟩ := R.1
  rcases zcase a (n := n) (by omega) with ⟨t, h, rfl⟩ | ho
  · obtain ⟨s1, g1, g2, g3⟩ := p_X7_limitsOf hn ht h
    rcases zcase b (n := 6) (by omega) with ⟨w, hw, rfl⟩ | hw
    · have hw6 : w = 0 ∨ w = 1 ∨ w = 2 ∨ w = 3 ∨ w = 4 ∨ w = 5 := by omega
      rcases hw6 with rfl | rfl | rfl | rfl | rfl | rfl
      · refine zokq_0 (r := zlim σ t 0) R ⟨s1, ?_, zQx_13 g2⟩ (fun τ hv => ⟨zp τ 65 3 0, ?_, zp_e _ _ _ _, zMx_3 _ _⟩)
        · rw [f_X8_left, c_tok_in hc hn h, zx_0, show nI 0 = 0 from rfl, if_neg (by decide), if_neg (by decide)]
          simp +decide only [f_X8_left_19, f_X8_needArgument, ↓reduceIte, zx_0, g1, zb_s]
          rw [g3 0 (by decide)]
        · have e := hv 66 (by decide) (by decide)
          have ew : (zp τ 65 3 0) 66 = σ 66 := by rw [zp_n _ _ _ (by decide), e]
          rw [f_X9_left, m_tok_in (by rw [e]; exact hm) hn h, zb_s, if_neg (by decide), m_in τ (n := 6) (s := 0) (by decide) (by decide) (by decide), zb_s, if_neg (by decide)]
          simp +decide only [f_X9_left_27, show nI 0 = 0 from rfl, zp_e, ↓reduceIte]
          have g := m_setLeft (τ := zp τ 65 3 0) (c := σ) (K := K) hn (by rw [ew]; exact ht) h (j := 0) (by decide)
          rw [show nI 0 = 0 from rfl] at g
          rw [g, zb_s]
      · refine zokq_0 (r := zlim σ t 1) R ⟨s1, ?_, zQx_13 g2⟩ (fun τ hv => ⟨zp τ 65 3 0, ?_, zp_e _ _ _ _, zMx_3 _ _⟩)
        · rw [f_X8_left, c_tok_in hc hn h, zx_0, show nI 1 = 1 from rfl, if_neg (by decide), if_neg (by decide)]
          simp +decide only [f_X8_left_19, f_X8_needArgument, ↓reduceIte, zx_0, g1, zb_s]
          rw [g3 1 (by decide)]
        · have e := hv 66 (by decide) (by decide)
          have ew : (zp τ 65 3 0) 66 = σ 66 := by rw [zp_n _ _ _ (by decide), e]
          rw [f_X9_left, m_tok_in (by rw [e]; exact hm) hn h, zb_s, if_neg (by decide), m_in τ (n := 6) (s := 1) (by decide) (by decide) (by decide), zb_s, if_neg (by decide)]
          simp +decide only [f_X9_left_27, show nI 1 = 1 from rfl, zp_e, ↓reduceIte]
          rw [m_endOf (τ := zp τ 65 3 0) (c := σ) (K := K) hn (by rw [ew]; exact ht) h, zb_s, m_endOf (τ := zp τ 65 3 0) (c := σ) (K := K) hn (by rw [ew]; exact ht) h, zb_s]
          rcases zend_lim hn ht h with ⟨q1, q2⟩ | ⟨q1, q2⟩
          · rw [if_pos q2, q1]
          · rw [if_neg, q1]
            intro z; rw [z] at q2
            obtain ⟨x, x1, x2, x3⟩ := q2
            have x4 := congrArg Int32.toInt x3
            rw [nI_toInt x2] at x4
            have x5 : (2147483647 : Int32).toInt = 2147483647 := by decide
            omega
      · refine zokq_0 (r := zlim σ t 2) R ⟨s1, ?_, zQx_13 g2⟩ (fun τ hv => ⟨zp τ 65 3 0, ?_, zp_e _ _ _ _, zMx_3 _ _⟩)
        · rw [f_X8_left, c_tok_in hc hn h, zx_0, show nI 2 = 2 from rfl, if_neg (by decide), if_neg (by decide)]
          simp +decide only [f_X8_left_19, f_X8_needArgument, ↓reduceIte, zx_0, g1, zb_s]
          rw [g3 2 (by decide)]
        · have e := hv 66 (by decide) (by decide)
          have ew : (zp τ 65 3 0) 66 = σ 66 := by rw [zp_n _ _ _ (by decide), e]
          rw [f_X9_left, m_tok_in (by rw [e]; exact hm) hn h, zb_s, if_neg (by decide), m_in τ (n := 6) (s := 2) (by decide) (by decide) (by decide), zb_s, if_neg (by decide)]
          simp +decide only [f_X9_left_27, show nI 2 = 2 from rfl, zp_e, ↓reduceIte]
          have g := m_setLeft (τ := zp τ 65 3 0) (c := σ) (K := K) hn (by rw [ew]; exact ht) h (j := 2) (by decide)
          rw [show nI 2 = 2 from rfl] at g
          rw [g, zb_s]
      · refine zokq_0 (r := zlim σ t 3) R ⟨s1, ?_, zQx_13 g2⟩ (fun τ hv => ⟨zp τ 65 3 0, ?_, zp_e _ _ _ _, zMx_3 _ _⟩)
        · rw [f_X8_left, c_tok_in hc hn h, zx_0, show nI 3 = 3 from rfl, if_neg (by decide), if_neg (by decide)]
          simp +decide only [f_X8_left_19, f_X8_needArgument, ↓reduceIte, zx_0, g1, zb_s]
          rw [g3 3 (by decide)]
        · have e := hv 66 (by decide) (by decide)
          have ew : (zp τ 65 3 0) 66 = σ 66 := by rw [zp_n _ _ _ (by decide), e]
          rw [f_X9_left, m_tok_in (by rw [e]; exact hm) hn h, zb_s, if_neg (by decide), m_in τ (n := 6) (s := 3) (by decide) (by decide) (by decide), zb_s, if_neg (by decide)]
          simp +decide only [f_X9_left_27, show nI 3 = 3 from rfl, zp_e, ↓reduceIte]
          rw [m_timesLeft (τ := zp τ 65 3 0) (c := σ) (K := K) hn (by rw [ew]; exact ht) h, zb_s]
      · refine zokq_0 (r := (if zlim σ t 4 ≤ zlim σ t 5 then zlim σ t 4 else -1)) R ⟨s1, ?_, zQx_13 g2⟩ (fun τ hv => ⟨zp τ 65 3 0, ?_, zp_e _ _ _ _, zMx_3 _ _⟩)
        · rw [f_X8_left, c_tok_in hc hn h, zx_0, show nI 4 = 4 from rfl, if_neg (by decide), if_neg (by decide)]
          simp +decide only [f_X8_left_19, f_X8_needArgument, ↓reduceIte, zx_0, g1, zb_s]
          rw [f_X3_hasArgument, g3 4 (by decide), g3 5 (by decide)]
          by_cases w : zlim σ t 5 < zlim σ t 4
          · rw [if_pos w, zb_s, if_pos rfl, if_neg (fun z => zle_nlt.mp z w)]
          · rw [if_neg w, zb_s, if_neg (by decide), if_pos (zle_nlt.mpr w), g3 4 (by decide)]
        · have e := hv 66 (by decide) (by decide)
          have ew : (zp τ 65 3 0) 66 = σ 66 := by rw [zp_n _ _ _ (by decide), e]
          rw [f_X9_left, m_tok_in (by rw [e]; exact hm) hn h, zb_s, if_neg (by decide), m_in τ (n := 6) (s := 4) (by decide) (by decide) (by decide), zb_s, if_neg (by decide)]
          simp +decide only [f_X9_left_27, show nI 4 = 4 from rfl, zp_e, ↓reduceIte]
          simp only [f_X9_left_124]
          rw [m_argumentLeft (τ := zp τ 65 3 0) (c := σ) (K := K) hn (by rw [ew]; exact ht) h, zb_s]
          simp +decide only [↓reduceIte]
      · refine zokq_0 (r := (if zlim σ t 4 ≤ zlim σ t 5 then zlim σ t 5 else -1)) R ⟨s1, ?_, zQx_13 g2⟩ (fun τ hv => ⟨zp τ 65 3 0, ?_, zp_e _ _ _ _, zMx_3 _ _⟩)
        · rw [f_X8_left, c_tok_in hc hn h, zx_0, show nI 5 = 5 from rfl, if_neg (by decide), if_neg (by decide)]
          simp +decide only [f_X8_left_19, f_X8_needArgument, ↓reduceIte, zx_0, g1, zb_s]
          rw [f_X3_hasArgument, g3 4 (by decide), g3 5 (by decide)]
          by_cases w : zlim σ t 5 < zlim σ t 4
          · rw [if_pos w, zb_s, if_pos rfl, if_neg (fun z => zle_nlt.mp z w)]
          · rw [if_neg w, zb_s, if_neg (by decide), if_pos (zle_nlt.mpr w), g3 5 (by decide)]
        · have e := hv 66 (by decide) (by decide)
          have ew : (zp τ 65 3 0) 66 = σ 66 := by rw [zp_n _ _ _ (by decide), e]
          rw [f_X9_left, m_tok_in (by rw [e]; exact hm) hn h, zb_s, if_neg (by decide), m_in τ (n := 6) (s := 5) (by decide) (by decide) (by decide), zb_s, if_neg (by decide)]
          simp +decide only [f_X9_left_27, show nI 5 = 5 from rfl, zp_e, ↓reduceIte]
          simp only [f_X9_left_124]
          rw [m_argumentLeft (τ := zp τ 65 3 0) (c := σ) (K := K) hn (by rw [ew]; exact ht) h, zb_s]
          simp +decide only [↓reduceIte]
    · refine zokq_e 1 2 R ⟨σ, 0, ?_, zQx_refl σ⟩ (fun _ => rfl) (by decide) (fun τ hv => ⟨zp τ 65 3 2, 0, ?_, zp_e _ _ _ _, zMx_3 _ _⟩)
      · rw [f_X8_left, c_tok_in hc hn h, zx_0]
        by_cases q : b < 0
        · rw [if_pos q]; rfl
        · rw [if_neg q, if_pos (show (5 : Int32) < b from z_gt (k := 5) (by decide) (hw.resolve_left q))]; rfl
      · have e := hv 66 (by decide) (by decide)
        rw [f_X9_left, m_tok_in (by rw [e]; exact hm) hn h, zb_s, if_neg (by decide), m_out τ (n := 6) (by decide) (by decide) hw]
        simp (disch := omega) only [zb_s, zx_0, ↓reduceIte, zp_e, zp_n, e, nI_add, nI_1, zg_in, zcl, ze10, ze20, ze30, ze40, f_X9_left_27]
  · refine zokq_e 0 1 R ⟨σ, 0, ?_, zQx_refl σ⟩ (fun _ => rfl) (by decide) (fun τ hv => ⟨zp τ 65 3 1, 0, ?_, zp_e _ _ _ _, zMx_3 _ _⟩)
    · rw [f_X8_left, c_tok_out hc ho]; rfl
    · have e := hv 66 (by decide) (by decide)
      rw [f_X9_left, m_tok_out (by rw [e]; exact hm) hn ho]
      simp (disch := omega) only [zb_s, zx_0, ↓reduceIte, zp_e, zp_n, e, nI_add, nI_1, zg_in, zcl, ze10, ze20, ze30, ze40, f_X9_left_27]
theorem k_rights (hK : K < 1000) (R : RA σ K) (a b : Int32) : zok (f_L_rights_0_75 σ a b) (fun τ => f_X9_rights τ a b) (K + 1) := by
  obtain ⟨n, hn, ⟨hc, hm⟩, ht, hbx, hjn, hob, htm, hex⟩ := R.1
  rcases zcase a (n := 6) (by omega) with ⟨s, hs, rfl⟩ | ho
  · rcases zcase b (n := n) (by omega) with ⟨t, h, rfl⟩ | hw
    · obtain ⟨s1, g1, g2⟩ := p_openRights hn (by omega) ht h hs
      refine zokq_0 (r := zopen σ (nI s) t) R ⟨s1, ?_, zQx_13 g2⟩ (fun τ hv => ⟨zp τ 65 3 0, ?_, zp_e _ _ _ _, zMx_3 _ _⟩)
      · rw [f_X8_rights, c_sub_in σ hs, zx_0, c_tok_in hc hn h, zx_0, g1]; rfl
      · have e := hv 66 (by decide) (by decide)
        have ew : (zp τ 65 3 0) 66 = σ 66 := by rw [zp_n _ _ _ (by decide), e]
        rw [f_X9_rights, m_sub_in τ hs, zb_s, if_neg (by decide), m_tok_in (by rw [e]; exact hm) hn h, zb_s, if_neg (by decide), f_X9_rights_21, zp_e, if_pos rfl, m_openRights (τ := zp τ 65 3 0) (c := σ) (K := K) hn (by rw [ew]; exact ht) (by rw [ew]; exact htm.1) h]; rfl
    · refine zokq_e 0 1 R ⟨σ, 0, ?_, zQx_refl σ⟩ (fun _ => rfl) (by decide) (fun τ hv => ⟨zp τ 65 3 1, 0, ?_, zp_e _ _ _ _, zMx_3 _ _⟩)
      · rw [f_X8_rights, c_sub_in σ hs, zx_0, c_tok_out hc hw]; rfl
      · have e := hv 66 (by decide) (by decide)
        rw [f_X9_rights, m_sub_in τ hs, zb_s, if_neg (by decide), m_tok_out (by rw [e]; exact hm) hn hw]
        simp (disch := omega) only [zb_s, zx_0, ↓reduceIte, zp_e, zp_n, e, nI_add, nI_1, zg_in, zcl, ze10, ze20, ze30, ze40, f_X9_rights_21]
  · refine zokq_e 0 1 R ⟨σ, 0, ?_, zQx_refl σ⟩ (fun _ => rfl) (by decide) (fun τ hv => ⟨zp τ 65 3 1, 0, ?_, zp_e _ _ _ _, zMx_3 _ _⟩)
    · rw [f_X8_rights, c_sub_out σ ho]; rfl
    · have e := hv 66 (by decide) (by decide)
      rw [f_X9_rights, m_sub_out τ ho]
      simp (disch := omega) only [zb_s, zx_0, ↓reduceIte, zp_e, zp_n, e, nI_add, nI_1, zg_in, zcl, ze10, ze20, ze30, ze40, f_X9_rights_21]
theorem k_count (R : RA σ K) (a : Int32) : zok (f_L_count_0_75 σ a) (fun τ => f_X9_count τ a) (K + 1) := by
  obtain ⟨n, hn, ⟨hc, hm⟩, ht, hbx, hjn, hob, htm, hex⟩ := R.1
  obtain ⟨np, nx, hnp, hnx, ⟨p1, p2⟩, ⟨x1, x2⟩, hp, hx⟩ := hbx
  obtain ⟨ne, hne, ⟨j1, j2⟩, ⟨j4, j5⟩, -⟩ := hjn
  obtain ⟨⟨tw, htw, ⟨t1, t2⟩, -⟩, -⟩ := R.2.2.2.1
  rcases zcase a (n := 9) (by omega) with ⟨w, hw, rfl⟩ | hw
  · have hw9 : w = 0 ∨ w = 1 ∨ w = 2 ∨ w = 3 ∨ w = 4 ∨ w = 5 ∨ w = 6 ∨ w = 7 ∨ w = 8 := by omega
    rcases hw9 with rfl | rfl | rfl | rfl | rfl | rfl | rfl | rfl | rfl
    · refine zokq_0 (r := σ 2 0) R ⟨σ, ?_, zQx_refl σ⟩ (fun τ hv => ⟨zp τ 65 3 0, ?_, zp_e _ _ _ _, zMx_3 _ _⟩)
      · rw [f_X8_count, show nI 0 = 0 from rfl, if_neg (by decide), if_neg (by decide)]
        simp +decide only [f_X8_count_15, f_X8_needArgument, ↓reduceIte, zx_0]
      · have e := hv 66 (by decide) (by decide)
        have ew : (zp τ 65 3 0) 66 = σ 66 := by rw [zp_n _ _ _ (by decide), e]
        rw [f_X9_count, m_in τ (n := 9) (s := 0) (by decide) (by decide) (by decide), zb_s, if_neg (by decide)]
        simp +decide only [f_X9_count_16, show nI 0 = 0 from rfl, zp_e, ↓reduceIte]
        rw [zG1, zC1, ew, show σ 66 1 = _ from hm.trans hc.symm]
    · refine zokq_0 (r := σ 1 5) R ⟨σ, ?_, zQx_refl σ⟩ (fun τ hv => ⟨zp τ 65 3 0, ?_, zp_e _ _ _ _, zMx_3 _ _⟩)
      · rw [f_X8_count, show nI 1 = 1 from rfl, if_neg (by decide), if_neg (by decide)]
        simp +decide only [f_X8_count_15, f_X8_needArgument, ↓reduceIte, zx_0]
      · have e := hv 66 (by decide) (by decide)
        have ew : (zp τ 65 3 0) 66 = σ 66 := by rw [zp_n _ _ _ (by decide), e]
        rw [f_X9_count, m_in τ (n := 9) (s := 1) (by decide) (by decide) (by decide), zb_s, if_neg (by decide)]
        simp +decide only [f_X9_count_16, show nI 1 = 1 from rfl, zp_e, ↓reduceIte]
        rw [zG0, zC0, ew, show σ 66 0 = _ from htm.1]
    · refine zokq_0 (r := σ 14 0) R ⟨σ, ?_, zQx_refl σ⟩ (fun τ hv => ⟨zp τ 65 3 0, ?_, zp_e _ _ _ _, zMx_3 _ _⟩)
      · rw [f_X8_count, show nI 2 = 2 from rfl, if_neg (by decide), if_neg (by decide)]
        simp +decide only [f_X8_count_15, f_X8_needArgument, ↓reduceIte, zx_0]
      · have e := hv 66 (by decide) (by decide)
        have ew : (zp τ 65 3 0) 66 = σ 66 := by rw [zp_n _ _ _ (by decide), e]
        rw [f_X9_count, m_in τ (n := 9) (s := 2) (by decide) (by decide) (by decide), zb_s, if_neg (by decide)]
        simp +decide only [f_X9_count_16, show nI 2 = 2 from rfl, zp_e, ↓reduceIte]
        rw [zG2, zC2, ew, show σ 66 2 = _ from p2.trans p1.symm]
    · refine zokq_0 (r := σ 14 3) R ⟨σ, ?_, zQx_refl σ⟩ (fun τ hv => ⟨zp τ 65 3 0, ?_, zp_e _ _ _ _, zMx_3 _ _⟩)
      · rw [f_X8_count, show nI 3 = 3 from rfl, if_neg (by decide), if_neg (by decide)]
        simp +decide only [f_X8_count_15, f_X8_needArgument, ↓reduceIte, zx_0]
      · have e := hv 66 (by decide) (by decide)
        have ew : (zp τ 65 3 0) 66 = σ 66 := by rw [zp_n _ _ _ (by decide), e]
        rw [f_X9_count, m_in τ (n := 9) (s := 3) (by decide) (by decide) (by decide), zb_s, if_neg (by decide)]
        simp +decide only [f_X9_count_16, show nI 3 = 3 from rfl, zp_e, ↓reduceIte]
        rw [zG3, zC3, ew, show σ 66 3 = _ from x2.trans x1.symm]
    · refine zokq_0 (r := σ 20 2) R ⟨σ, ?_, zQx_refl σ⟩ (fun τ hv => ⟨zp τ 65 3 0, ?_, zp_e _ _ _ _, zMx_3 _ _⟩)
      · rw [f_X8_count, show nI 4 = 4 from rfl, if_neg (by decide), if_neg (by decide)]
        simp +decide only [f_X8_count_15, f_X8_needArgument, ↓reduceIte, zx_0]
      · have e := hv 66 (by decide) (by decide)
        have ew : (zp τ 65 3 0) 66 = σ 66 := by rw [zp_n _ _ _ (by decide), e]
        rw [f_X9_count, m_in τ (n := 9) (s := 4) (by decide) (by decide) (by decide), zb_s, if_neg (by decide)]
        simp +decide only [f_X9_count_16, show nI 4 = 4 from rfl, zp_e, ↓reduceIte]
        rw [zG4, zC4, ew, show σ 66 4 = _ from j4]
    · refine zokq_0 (r := σ 20 3) R ⟨σ, ?_, zQx_refl σ⟩ (fun τ hv => ⟨zp τ 65 3 0, ?_, zp_e _ _ _ _, zMx_3 _ _⟩)
      · rw [f_X8_count, show nI 5 = 5 from rfl, if_neg (by decide), if_neg (by decide)]
        simp +decide only [f_X8_count_15, f_X8_needArgument, ↓reduceIte, zx_0]
      · have e := hv 66 (by decide) (by decide)
        have ew : (zp τ 65 3 0) 66 = σ 66 := by rw [zp_n _ _ _ (by decide), e]
        rw [f_X9_count, m_in τ (n := 9) (s := 5) (by decide) (by decide) (by decide), zb_s, if_neg (by decide)]
        simp +decide only [f_X9_count_16, show nI 5 = 5 from rfl, zp_e, ↓reduceIte]
        rw [zG5, zC5, ew, show σ 66 5 = _ from j5]
    · refine zokq_0 (r := σ 20 1) R ⟨σ, ?_, zQx_refl σ⟩ (fun τ hv => ⟨zp τ 65 3 0, ?_, zp_e _ _ _ _, zMx_3 _ _⟩)
      · rw [f_X8_count, show nI 6 = 6 from rfl, if_neg (by decide), if_neg (by decide)]
        simp +decide only [f_X8_count_15, f_X8_needArgument, ↓reduceIte, zx_0]
      · have e := hv 66 (by decide) (by decide)
        have ew : (zp τ 65 3 0) 66 = σ 66 := by rw [zp_n _ _ _ (by decide), e]
        rw [f_X9_count, m_in τ (n := 9) (s := 6) (by decide) (by decide) (by decide), zb_s, if_neg (by decide)]
        simp +decide only [f_X9_count_16, show nI 6 = 6 from rfl, zp_e, ↓reduceIte]
        rw [zG6, zC6, ew, show σ 66 6 = _ from j2.trans j1.symm]
    · refine zokq_0 (r := σ 52 1) R ⟨σ, ?_, zQx_refl σ⟩ (fun τ hv => ⟨zp τ 65 3 0, ?_, zp_e _ _ _ _, zMx_3 _ _⟩)
      · rw [f_X8_count, show nI 7 = 7 from rfl, if_neg (by decide), if_neg (by decide)]
        simp +decide only [f_X8_count_15, f_X8_needArgument, ↓reduceIte, zx_0]
      · have e := hv 66 (by decide) (by decide)
        have ew : (zp τ 65 3 0) 66 = σ 66 := by rw [zp_n _ _ _ (by decide), e]
        rw [f_X9_count, m_in τ (n := 9) (s := 7) (by decide) (by decide) (by decide), zb_s, if_neg (by decide)]
        simp +decide only [f_X9_count_16, show nI 7 = 7 from rfl, zp_e, ↓reduceIte]
        rw [zp_o _ _ (by decide), hv 65 (by decide) (by decide), t2, t1]
    · refine zokq_0 (r := nI (zcnt (fun t => !zed σ t) n)) R ⟨σ, ?_, zQx_refl σ⟩ (fun τ hv => ⟨zp τ 65 3 0, ?_, zp_e _ _ _ _, zMx_3 _ _⟩)
      · rw [f_X8_count, show nI 8 = 8 from rfl, if_neg (by decide), if_neg (by decide)]
        simp +decide only [f_X8_count_15, f_X8_needArgument, ↓reduceIte, zx_0]
        rw [p_X7_setOfLiving hn hc ht, zb_s, p_bitSet σ (p := fun t => !zed σ t) (n := n) (by omega) (fun k hk => zbit_set _ (by omega)), zb_s]
      · have e := hv 66 (by decide) (by decide)
        have ew : (zp τ 65 3 0) 66 = σ 66 := by rw [zp_n _ _ _ (by decide), e]
        rw [f_X9_count, m_in τ (n := 9) (s := 8) (by decide) (by decide) (by decide), zb_s, if_neg (by decide)]
        simp +decide only [f_X9_count_16, show nI 8 = 8 from rfl, zp_e, ↓reduceIte]
        rw [m_whole (τ := zp τ 65 3 0) (c := σ) (K := K) hn (by rw [ew]; exact hm) (by rw [ew]; exact ht), zb_s]
  · refine zokq_e 1 1 R ⟨σ, 0, ?_, zQx_refl σ⟩ (fun _ => rfl) (by decide) (fun τ hv => ⟨zp τ 65 3 1, 0, ?_, zp_e _ _ _ _, zMx_3 _ _⟩)
    · rw [f_X8_count]
      by_cases q : a < 0
      · rw [if_pos q]; rfl
      · rw [if_neg q, if_pos (show (8 : Int32) < a from z_gt (k := 8) (by decide) (hw.resolve_left q))]; rfl
    · have e := hv 66 (by decide) (by decide)
      rw [f_X9_count, m_out τ (n := 9) (by decide) (by decide) hw]
      simp (disch := omega) only [zb_s, zx_0, ↓reduceIte, zp_e, zp_n, e, nI_add, nI_1, zg_in, zcl, ze10, ze20, ze30, ze40, f_X9_count_16]
theorem c_logged (hjn : RJn σ (σ 66)) {s b : Nat} (hs : s < 6) (hb : b < 2) : ∃ r : Int32, f_X2_numberOf σ (nI s) (nI b) = some (r, σ) ∧ ∀ τ : zs, τ 66 = σ 66 → τ 65 3 = 0 → zlp4 f_X9_logged_21 1000 τ (nI s) (nI b) 0 0 = some (r, τ) := by
  obtain ⟨ne, hne, ⟨e1, e2⟩, -, hrow, hval⟩ := hjn
  refine ⟨nI (zcnt (fun i => decide (σ 21 i / 1000 = nI s) && decide (σ 21 i - σ 21 i / 10 * 10 = nI b)) ne), ?_, fun τ e h3 => ?_⟩
  · rw [f_X2_numberOf]
    refine zlr4 ne (fun _ => σ) (fun _ => nI s) (fun _ => nI b) (fun i => nI (zcnt (fun i => decide (σ 21 i / 1000 = nI s) && decide (σ 21 i - σ 21 i / 10 * 10 = nI b)) i)) nI (fun i hi rec => ?_) (fun rec => ?_) 1000 (by omega)
    · obtain ⟨v, v1, v2, v3⟩ := hval i hi
      have em : σ 21 i - σ 21 i / 10 * 10 = nI (v % 10) := by rw [v3]; exact pk_rem (by omega) (by decide) (by decide)
      rw [f_X2_numberOf_5]
      simp (disch := omega) only [e1, znI_le, zg_in, zcl, f_X2_numberOf_33]
      rw [if_neg (by omega), em]
      have hv2 : v % 10 = 0 ∨ v % 10 = 1 := by omega
      have hb2 : b = 0 ∨ b = 1 := by omega
      simp only [zcnt, em, nI_1]
      by_cases q : σ 21 i / 1000 = nI s
      · rcases hv2 with w | w <;> rcases hb2 with rfl | rfl <;> simp +decide only [w, q, ↓reduceIte, decide_true, Bool.true_and]
      · rcases hv2 with w | w <;> simp +decide only [w, q, ↓reduceIte, decide_false, Bool.false_and]
    · rw [f_X2_numberOf_5, e1, if_pos (by exact Int32.le_refl _)]
  · refine zlr4 ne (fun _ => τ) (fun _ => nI s) (fun _ => nI b) (fun i => nI (zcnt (fun i => decide (σ 21 i / 1000 = nI s) && decide (σ 21 i - σ 21 i / 10 * 10 = nI b)) i)) nI (fun i hi rec => ?_) (fun rec => ?_) 1000 (by omega)
    · have hh := hrow i (by omega)
      have hb2 : b = 0 ∨ b = 1 := by omega
      rw [f_X9_logged_21, h3, if_pos rfl, zG6, zC6, e, e2]
      simp (disch := omega) only [znI_le, zk7, nI_add, zg_in, zcl, hh, f_X9_logged_89, f_X9_logged_81, nI_1]
      rw [if_neg (by omega)]
      simp only [zcnt]
      by_cases q : σ 21 i / 1000 = nI s
      · rw [if_pos q]
        rcases hb2 with rfl | rfl
        · rw [if_pos (show nI 0 = 0 from rfl)]
          by_cases w : σ 21 i - σ 21 i / 10 * 10 = 0
          · rw [if_pos w, if_pos (by rw [decide_eq_true q, decide_eq_true (show σ 21 i - σ 21 i / 10 * 10 = nI 0 from w)]; rfl)]
          · rw [if_neg w, if_neg (by rw [decide_eq_true q, decide_eq_false (show ¬ σ 21 i - σ 21 i / 10 * 10 = nI 0 from w)]; decide)]; simp
        · rw [if_neg (show ¬ nI 1 = 0 by decide)]
          by_cases w : σ 21 i - σ 21 i / 10 * 10 = 1
          · rw [if_pos w, if_pos (by rw [decide_eq_true q, decide_eq_true (show σ 21 i - σ 21 i / 10 * 10 = nI 1 from w)]; rfl)]
          · rw [if_neg w, if_neg (by rw [decide_eq_true q, decide_eq_false (show ¬ σ 21 i - σ 21 i / 10 * 10 = nI 1 from w)]; decide)]; simp
      · rw [if_neg q, if_neg (by rw [decide_eq_false q]; simp)]; simp
    · rw [f_X9_logged_21, h3, if_pos rfl, zG6, zC6, e, e2, if_pos (by exact Int32.le_refl _)]
theorem k_logged (R : RA σ K) (a : Int32) {b : Nat} (hb : b < 2) : zok (f_L_logged_0_75 σ a (nI b)) (fun τ => f_X9_logged τ a (nI b)) (K + 1) := by
  obtain ⟨n, hn, ⟨hc, hm⟩, ht, hbx, hjn, hob, htm, hex⟩ := R.1
  rcases zcase a (n := 6) (by omega) with ⟨s, hs, rfl⟩ | ho
  · obtain ⟨r, g1, g2⟩ := c_logged hjn hs hb
    refine zokq_0 (r := r) R ⟨σ, ?_, zQx_refl σ⟩ (fun τ hv => ⟨zp τ 65 3 0, ?_, zp_e _ _ _ _, zMx_3 _ _⟩)
    · rw [f_X8_logged, c_sub_in σ hs, zx_0, g1]; rfl
    · have e := hv 66 (by decide) (by decide)
      have ew : (zp τ 65 3 0) 66 = σ 66 := by rw [zp_n _ _ _ (by decide), e]
      rw [f_X9_logged, m_sub_in τ hs, zb_s, if_neg (by decide), f_X9_logged_13]
      exact g2 _ ew (zp_e _ _ _ _)
  · refine zokq_e 0 1 R ⟨σ, 0, ?_, zQx_refl σ⟩ (fun _ => rfl) (by decide) (fun τ hv => ⟨zp τ 65 3 1, 0, ?_, zp_e _ _ _ _, zMx_3 _ _⟩)
    · rw [f_X8_logged, c_sub_out σ ho]; rfl
    · have e := hv 66 (by decide) (by decide)
      rw [f_X9_logged, m_sub_out τ ho, zb_s, if_pos rfl, f_X9_logged_13]
      refine zlr4 0 (fun _ => zp τ 65 3 1) (fun _ => a) (fun _ => nI b) (fun _ => 0) (fun _ => 0) (fun i hi => absurd hi (by omega)) (fun rec => ?_) 1000 (by omega)
      rw [f_X9_logged_21, zp_e, if_neg (by decide)]
end PK
