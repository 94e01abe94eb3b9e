/-! what could come: the class -/
theorem zbyte28 {u t u2 t2 : Nat} (h : u < u2) (ht : t < 28) : u * 28 + t ≠ u2 * 28 + t2 := by omega
section PW
variable {σ c : zs} {m : Nat → Int32} {K n : Nat}
def zQfo (σ : zs) (n : Nat) (x : Option (Int32 × zs)) : Prop := ∃ s : zs, x = some (0, s) ∧ (∀ p, p ≠ 13 → p ≠ 61 → s p = σ p) ∧ ∀ u, u < 6 → ∀ t, t < n → s 61 (u * 28 + t) = zopen σ (nI u) t
theorem p_findOpen (hn : n ≤ 28) (hK : K < 100000) (hc : σ 2 0 = nI n) (h : ∀ t, t < n → RTk σ m K t) : zQfo σ n (f_X4_findOpen_1 σ) := by
  rw [f_X4_findOpen_1, zi0]
  refine zli1 (Q := zQfo σ n) 6 (fun j s a => a = nI j ∧ (∀ p, p ≠ 13 → p ≠ 61 → s p = σ p) ∧ ∀ u, u < j → ∀ t, t < n → s 61 (u * 28 + t) = zopen σ (nI u) t) ?_ ?_ 1000 (by omega) ⟨rfl, fun _ _ _ => rfl, fun u hu => absurd hu (by omega)⟩
  · rintro j hj s a ⟨rfl, hf, hv⟩ rec kk
    rw [f_X4_findOpen_1_2, if_neg (by rw [zk6, znI_le (by omega) (by omega)]; omega), zi0]
    refine zli2 (Q := zQfo σ n) n (fun i s a b => a = nI j ∧ b = nI i ∧ (∀ p, p ≠ 13 → p ≠ 61 → s p = σ p) ∧ (∀ u, u < j → ∀ t, t < n → s 61 (u * 28 + t) = zopen σ (nI u) t) ∧ ∀ t, t < i → s 61 (j * 28 + t) = zopen σ (nI j) t) ?_ ?_ 1000 (by omega) ⟨rfl, rfl, hf, hv, fun t ht => absurd ht (by omega)⟩
    · rintro i hi s a b ⟨rfl, rfl, hf, hv, hw⟩ rec2 kk2
      have c3 : ∀ p, 3 ≤ p → p ≤ 12 → s p = σ p := fun p p1 p2 => hf p (by omega) (by omega)
      obtain ⟨s1, g1, g2⟩ := p_openRights (σ := s) (m := m) (K := K) hn hK (fun t ht => RTk_c3 c3 (h t ht)) hi hj
      rw [zopen_c (by rw [hf 1 (by decide) (by decide)]) c3] at g1
      rw [f_X4_findOpen_1_10, hf 2 (by decide) (by decide), hc]
      simp (disch := omega) only [znI_le]
      rw [if_neg (by omega), g1, zb_s]
      simp (disch := omega) only [zk28, nI_mul, nI_add, zg_in, zcl, nI_1]
      refine kk2 _ _ _ ⟨rfl, rfl, fun p p1 p2 => by rw [zp_n _ _ _ p2, g2 p p1]; exact hf p p1 p2, fun u hu t ht => ?_, fun t ht => ?_⟩
      · rw [zp_o _ _ (zbyte28 hu (by omega)), g2 61 (by decide)]; exact hv u hu t ht
      · by_cases e : t = i
        · subst e; rw [zp_e]
        · rw [zp_o _ _ (by omega), g2 61 (by decide)]; exact hw t (by omega)
    · rintro s a b ⟨rfl, rfl, hf, hv, hw⟩ rec2
      rw [f_X4_findOpen_1_10, hf 2 (by decide) (by decide), hc, if_pos (Int32.le_refl _), nI_1]
      refine kk _ _ ⟨rfl, hf, fun u hu t ht => ?_⟩
      by_cases e : u = j
      · subst e; exact hw t ht
      · exact hv u (by omega) t ht
  · rintro s a ⟨rfl, hf, hv⟩ rec
    rw [f_X4_findOpen_1_2, if_pos (by decide)]
    exact ⟨s, rfl, hf, hv⟩
theorem p_canOpen {u b : Nat} (hu : u < 6) (hb : b < 12) {np : Nat} (hnp : np ≤ 4) (hp : zr (σ 17 b) np) : f_X0_canOpen σ (nI u) (nI b) = some (bI (zcan σ u b), σ) := by
  obtain ⟨e1, e2, e3⟩ := zr_N hp
  rw [f_X0_canOpen, zg_in _ (by omega) (by omega), zcl (by omega), p_hasBit _ _ (show u < 32 by omega), zb_s, bI_0]
  unfold zcan
  cases zbit (σ 19 b) u with
  | false => rfl
  | true =>
    rw [if_pos rfl, zg_in _ (by omega) (by omega)]
    have e4 : zg (zin (σ 17 b) 4) (zb (f_X8_hasBit σ (σ 16 (σ 17 b).toNatClampNeg) (nI u)) (fun r5 σ6 => if r5 = 0 then (some ((0 : Int32), σ6)) else (some ((1 : Int32), σ6)))) = zb (f_X8_hasBit σ (σ 16 (zN (σ 17 b))) (nI u)) (fun r5 σ6 => if r5 = 0 then (some ((0 : Int32), σ6)) else (some ((1 : Int32), σ6))) := by
      rw [show zin (σ 17 b) 4 = true from by rw [e1]; exact zin_n (by omega) (by omega), zg_t]; rfl
    rw [e4, p_hasBit _ _ (show u < 32 by omega), zb_s, bI_0]
    cases zbit (σ 16 (zN (σ 17 b))) u <;> rfl
/-- bits gathered one by one -/
theorem zgat_bit (p : Nat → Bool) (tok : Nat → Nat) (x : Int32) (k : Nat) (hk : k < 32) : ∀ N, (∀ b, b < N → tok b < 32) → zbit (zfold (fun v b => if p b then v ||| ((1 : Int32) <<< (nI (tok b) &&& 31)) else v) x N) k = (zbit x k || zany (fun b => p b && (tok b == k)) N)
  | 0, _ => by simp [zfold, zany]
  | N + 1, h => by
    have ih := zgat_bit p tok x k hk N (fun b hb => h b (by omega))
    rw [zfold, zany]
    cases hp : p N with
    | false => rw [if_neg (by decide), ih]; simp
    | true =>
      rw [if_pos rfl, zbit_or, ih, zbit_1s (h N (by omega)) hk, Bool.true_and, Bool.or_assoc]
      have e : decide (k = tok N) = (tok N == k) := by
        by_cases q : k = tok N
        · rw [decide_eq_true q, q]; simp
        · rw [decide_eq_false q, beq_eq_false_iff_ne.mpr (Ne.symm q)]
      rw [e]
def zQff (σ : zs) (n nx : Nat) (x : Option (Int32 × zs)) : Prop := ∃ s : zs, x = some (0, s) ∧ (∀ p, p ≠ 58 → p ≠ 59 → s p = σ p) ∧ (∀ u, u < 6 → s 58 u = 0) ∧ zis (s 59) (zBb σ n nx)
theorem p_findFirst (hn : n ≤ 28) (hc : σ 2 0 = nI n) {np nx : Nat} (hnp : np ≤ 4) (hnx : nx ≤ 12) (h14 : σ 14 3 = nI nx) (hx : ∀ b, b < nx → zr (σ 17 b) np ∧ zr (σ 18 b) n) : zQff σ n nx (f_X4_findFirst_1 σ) := by
  rw [f_X4_findFirst_1, zi0]
  refine zli1 (Q := zQff σ n nx) 6 (fun j s a => a = nI j ∧ (∀ p, p ≠ 58 → p ≠ 59 → s p = σ p) ∧ (∀ u, u < j → s 58 u = 0) ∧ ∀ u, u < j → ∀ t, t < 32 → zbit (s 59 u) t = zBb σ n nx u t) ?_ ?_ 1000 (by omega) ⟨rfl, fun _ _ _ => rfl, fun u hu => absurd hu (by omega), fun u hu => absurd hu (by omega)⟩
  · rintro j hj s a ⟨rfl, hf, hz, hv⟩ rec kk
    rw [f_X4_findFirst_1_2, if_neg (by rw [zk6, znI_le (by omega) (by omega)]; omega), zg_in _ (by omega) (by omega), zcl (by omega), p_X7_setHeldBy hn (by rw [zp_n _ _ _ (by decide), hf 2 (by decide) (by decide)]; exact hc) hj, zb_s, zg_in _ (by omega) (by omega), zp_n _ _ _ (by decide), hf 6 (by decide) (by decide), zi0]
    refine zli2 (Q := zQff σ n nx) nx (fun i s a b => a = nI j ∧ b = nI i ∧ (∀ p, p ≠ 58 → p ≠ 59 → s p = σ p) ∧ (∀ u, u < j + 1 → s 58 u = 0) ∧ (∀ u, u < j → ∀ t, t < 32 → zbit (s 59 u) t = zBb σ n nx u t) ∧ s 59 j = zfold (fun v b => if zcan σ j b then v ||| ((1 : Int32) <<< (nI (zN (σ 18 b)) &&& 31)) else v) (zset (fun t => zbit (σ 6 t) j) n) i) ?_ ?_ 1000 (by omega) ⟨rfl, rfl, fun p p1 p2 => by rw [zp_n _ _ _ p2, zp_n _ _ _ p1]; exact hf p p1 p2, fun u hu => ?_, fun u hu t ht => ?_, by rw [zp_e]; rfl⟩
    · rintro i hi s a b ⟨rfl, rfl, hf, hz, hv, hw⟩ rec2 kk2
      obtain ⟨q1, q2⟩ := hx i hi
      obtain ⟨e1, e2, e3⟩ := zr_N q2
      have hcan : zcan s j i = zcan σ j i := by
        unfold zcan
        rw [hf 16 (by decide) (by decide), hf 17 (by decide) (by decide), hf 19 (by decide) (by decide)]
      rw [f_X4_findFirst_1_31, hf 14 (by decide) (by decide), h14]
      simp (disch := omega) only [znI_le]
      rw [if_neg (by omega), p_canOpen hj (show i < 12 by omega) hnp (by rw [hf 17 (by decide) (by decide)]; exact q1), zb_s, hcan, bI_0, nI_1]
      have hs : zfold (fun v b => if zcan σ j b then v ||| ((1 : Int32) <<< (nI (zN (σ 18 b)) &&& 31)) else v) (zset (fun t => zbit (σ 6 t) j) n) (i + 1) = if zcan σ j i then zfold (fun v b => if zcan σ j b then v ||| ((1 : Int32) <<< (nI (zN (σ 18 b)) &&& 31)) else v) (zset (fun t => zbit (σ 6 t) j) n) i ||| ((1 : Int32) <<< (nI (zN (σ 18 i)) &&& 31)) else zfold (fun v b => if zcan σ j b then v ||| ((1 : Int32) <<< (nI (zN (σ 18 b)) &&& 31)) else v) (zset (fun t => zbit (σ 6 t) j) n) i := rfl
      cases hcc : zcan σ j i with
      | false =>
        rw [hcc, if_neg (by decide)] at hs
        rw [if_neg (by decide)]
        exact kk2 _ _ _ ⟨rfl, rfl, hf, hz, hv, by rw [hs]; exact hw⟩
      | true =>
        rw [hcc, if_pos rfl] at hs
        rw [if_pos rfl]
        simp (disch := omega) only [zg_in, zcl]
        refine kk2 _ _ _ ⟨rfl, rfl, fun p p1 p2 => by rw [zp_n _ _ _ p2]; exact hf p p1 p2, fun u hu => by rw [zp_n _ _ _ (by decide)]; exact hz u hu, fun u hu t ht => by rw [zp_o _ _ (by omega)]; exact hv u hu t ht, ?_⟩
        rw [hs, zp_e, hw, hf 18 (by decide) (by decide), ← e1]
    · rintro s a b ⟨rfl, rfl, hf, hz, hv, hw⟩ rec2
      rw [f_X4_findFirst_1_31, hf 14 (by decide) (by decide), h14, if_pos (Int32.le_refl _), nI_1]
      refine kk _ _ ⟨rfl, hf, hz, fun u hu t ht => ?_⟩
      by_cases e : u = j
      · subst e
        rw [hw, zgat_bit _ _ _ _ ht nx (fun b hb => by have := (zr_N (hx b hb).2).2.1; omega), zbit_set _ (by omega)]; rfl
      · exact hv u (by omega) t ht
    · rw [zp_n _ _ _ (by decide)]
      by_cases e : u = j
      · subst e; rw [zp_e]; rfl
      · rw [zp_o _ _ e]; exact hz u (by omega)
    · rw [zp_o _ _ (by omega), zp_n _ _ _ (by decide)]; exact hv u hu t ht
  · rintro s a ⟨rfl, hf, hz, hv⟩ rec
    rw [f_X4_findFirst_1_2, if_pos (by decide)]
    exact ⟨s, rfl, hf, hz, hv⟩
/-- what is new in a round -/
def zfr (s : zs) (u : Nat) : Int32 := s 59 u &&& (s 58 u ^^^ (-1 : Int32))
def zQst (s0 : zs) (n k : Nat) (x : Option (Int32 × zs)) : Prop := ∃ (b : Bool) (s : zs), x = some (bI b, s) ∧ (b = (decide (k = 0) || zany (fun u => zany (fun t => zbit (zfr s0 u) t) n) 6)) ∧ (∀ p, p ≠ 58 → p ≠ 60 → s p = s0 p) ∧ (∀ u, u < 6 → s 58 u = (s0 58 u ||| zfr s0 u)) ∧ ∀ u, u < 6 → ∀ t, t < n → s 60 (u * 28 + t) = if zbit (zfr s0 u) t then nI k else s0 60 (u * 28 + t)
theorem p_settle9 (hn : n ≤ 28) (s0 : zs) {k : Nat} (b0 : Bool) (hb0 : b0 = decide (k = 0)) : zQst s0 n k (f_X4_settle_9 s0 (nI n) (nI k) (bI b0)) := by
  rw [f_X4_settle_9, zi0]
  refine zli4 (Q := zQst s0 n k) 6 (fun j s a b d e => a = nI n ∧ b = nI k ∧ d = bI (b0 || zany (fun u => zany (fun t => zbit (zfr s0 u) t) n) j) ∧ e = nI j ∧ (∀ p, p ≠ 58 → p ≠ 60 → s p = s0 p) ∧ (∀ u, s 58 u = if u < j then (s0 58 u ||| zfr s0 u) else s0 58 u) ∧ ∀ u, u < 6 → ∀ t, t < n → s 60 (u * 28 + t) = if u < j ∧ zbit (zfr s0 u) t = true then nI k else s0 60 (u * 28 + t)) ?_ ?_ 1000 (by omega) ⟨rfl, rfl, by simp [zany], rfl, fun _ _ _ => rfl, fun u => by rw [if_neg (by omega)], fun u hu t ht => by rw [if_neg (by omega)]⟩
  · rintro j hj s a b d e ⟨rfl, rfl, rfl, rfl, hf, h58, h60⟩ rec kk
    rw [f_X4_settle_13, if_neg (by rw [zk6, znI_le (by omega) (by omega)]; omega)]
    simp (disch := omega) only [zg_in, zcl]
    have hfr : s 59 j &&& (s 58 j ^^^ (-1 : Int32)) = zfr s0 j := by
      rw [hf 59 (by decide) (by decide), h58 j, if_neg (by omega)]; rfl
    rw [hfr, zi0]
    refine zli6 (Q := zQst s0 n k) n (fun i s a b d e f g => a = nI n ∧ b = nI k ∧ d = bI ((b0 || zany (fun u => zany (fun t => zbit (zfr s0 u) t) n) j) || zany (fun t => zbit (zfr s0 j) t) i) ∧ e = nI j ∧ f = zfr s0 j ∧ g = nI i ∧ (∀ p, p ≠ 58 → p ≠ 60 → s p = s0 p) ∧ (∀ u, s 58 u = if u < j then (s0 58 u ||| zfr s0 u) else s0 58 u) ∧ ∀ u, u < 6 → ∀ t, t < n → s 60 (u * 28 + t) = if (u < j ∨ (u = j ∧ t < i)) ∧ zbit (zfr s0 u) t = true then nI k else s0 60 (u * 28 + t)) ?_ ?_ 1000 (by omega) ⟨rfl, rfl, by simp [zany], rfl, rfl, rfl, hf, h58, fun u hu t ht => ?_⟩
    · rintro i hi s a b d e f g ⟨rfl, rfl, rfl, rfl, rfl, rfl, hf, h58, h60⟩ rec2 kk2
      rw [f_X4_settle_42, if_neg (by rw [znI_le (by omega) (by omega)]; omega), p_hasBit _ _ (show i < 32 by omega), zb_s, bI_0, nI_1]
      cases hb : zbit (zfr s0 j) i with
      | false =>
        rw [if_neg (by decide)]
        refine kk2 _ _ _ _ _ _ _ ⟨rfl, rfl, by rw [zany, hb, Bool.or_false], rfl, rfl, rfl, hf, h58, fun u hu t ht => ?_⟩
        rw [h60 u hu t ht]
        by_cases w : u = j ∧ t = i
        · obtain ⟨rfl, rfl⟩ := w
          rw [if_neg (by rw [hb]; simp), if_neg (by rw [hb]; simp)]
        · have e : ((u < j ∨ (u = j ∧ t < i)) ∧ zbit (zfr s0 u) t = true) = ((u < j ∨ (u = j ∧ t < i + 1)) ∧ zbit (zfr s0 u) t = true) := by
            apply propext
            constructor
            · rintro ⟨q1, q2⟩; exact ⟨by omega, q2⟩
            · rintro ⟨q1, q2⟩; exact ⟨by omega, q2⟩
          simp only [e]
      | true =>
        rw [if_pos rfl]
        simp (disch := omega) only [zk28, nI_mul, nI_add, zg_in, zcl]
        refine kk2 _ _ _ _ _ _ _ ⟨rfl, rfl, by rw [zany, hb]; simp [bI], rfl, rfl, rfl, fun p p1 p2 => by rw [zp_n _ _ _ p2]; exact hf p p1 p2, fun u => by rw [zp_n _ _ _ (by decide)]; exact h58 u, fun u hu t ht => ?_⟩
        by_cases w : u = j ∧ t = i
        · obtain ⟨rfl, rfl⟩ := w
          rw [zp_e, if_pos ⟨by omega, hb⟩]
        · rw [zp_o _ _ (by omega), h60 u hu t ht]
          have e : ((u < j ∨ (u = j ∧ t < i)) ∧ zbit (zfr s0 u) t = true) = ((u < j ∨ (u = j ∧ t < i + 1)) ∧ zbit (zfr s0 u) t = true) := by
            apply propext
            constructor
            · rintro ⟨q1, q2⟩; exact ⟨by omega, q2⟩
            · rintro ⟨q1, q2⟩; exact ⟨by omega, q2⟩
          simp only [e]
    · rintro s a b d e f g ⟨rfl, rfl, rfl, rfl, rfl, rfl, hf, h58, h60⟩ rec2
      rw [f_X4_settle_42, if_pos (Int32.le_refl _)]
      simp (disch := omega) only [zg_in, zcl]
      rw [nI_1]
      refine kk _ _ _ _ _ ⟨rfl, rfl, by rw [zany, Bool.or_assoc], rfl, fun p p1 p2 => by rw [zp_n _ _ _ p1]; exact hf p p1 p2, fun u => ?_, fun u hu t ht => ?_⟩
      · by_cases e : u = j
        · subst e
          rw [zp_e, h58 u, if_neg (by omega), if_pos (by omega)]
        · rw [zp_o _ _ e, h58 u]
          by_cases q : u < j
          · rw [if_pos q, if_pos (by omega)]
          · rw [if_neg q, if_neg (by omega)]
      · rw [zp_n _ _ _ (by decide), h60 u hu t ht]
        have e : ((u < j ∨ (u = j ∧ t < n)) ∧ zbit (zfr s0 u) t = true) = (u < j + 1 ∧ zbit (zfr s0 u) t = true) := by
          apply propext
          constructor
          · rintro ⟨q1, q2⟩; exact ⟨by omega, q2⟩
          · rintro ⟨q1, q2⟩; exact ⟨by omega, q2⟩
        simp only [e]
    · rw [h60 u hu t ht]
      have e : (u < j ∧ zbit (zfr s0 u) t = true) = ((u < j ∨ (u = j ∧ t < 0)) ∧ zbit (zfr s0 u) t = true) := by
        apply propext
        constructor
        · rintro ⟨q1, q2⟩; exact ⟨by omega, q2⟩
        · rintro ⟨q1, q2⟩; exact ⟨by omega, q2⟩
      simp only [e]
  · rintro s a b d e ⟨rfl, rfl, rfl, rfl, hf, h58, h60⟩ rec
    rw [f_X4_settle_13, if_pos (by decide), bI_g, zg_t]
    refine ⟨_, s, rfl, by rw [hb0], hf, fun u hu => by rw [h58 u, if_pos hu], fun u hu t ht => ?_⟩
    rw [h60 u hu t ht]
    by_cases q : zbit (zfr s0 u) t = true
    · rw [if_pos ⟨hu, q⟩, if_pos q]
    · rw [if_neg (fun w => q w.2), if_neg q]
theorem p_settle (hn : n ≤ 28) (s0 : zs) {k : Nat} (hk : k < 1000) : zQst s0 n k (f_X4_settle s0 (nI n) (nI k)) := by
  rw [f_X4_settle]
  by_cases h : k = 0
  · subst h
    rw [if_pos (show nI 0 = 0 from rfl)]
    exact p_settle9 hn s0 true (by decide)
  · rw [if_neg (by rw [zi0, znI_inj (by omega) (by omega)]; exact h)]
    exact p_settle9 hn s0 false (decide_eq_false h).symm
theorem p_come (hn : n ≤ 28) (hc : σ 2 0 = nI n) {u : Nat} (hu : u < 6) (w : Int32) : f_X4_comeWithRight_2 σ (nI u) w = some (zset (fun t => zbit (σ 58 u) t && !decide (σ 61 (u * 28 + t) &&& w = 0)) n, σ) := by
  rw [f_X4_comeWithRight_2, zi0]
  refine zlr4 n (fun _ => σ) (fun _ => nI u) (fun _ => w) (zset (fun t => zbit (σ 58 u) t && !decide (σ 61 (u * 28 + t) &&& w = 0))) nI (fun i hi rec => ?_) (fun rec => ?_) 1000 (by omega)
  · rw [f_X4_comeWithRight_2_6, hc]
    simp (disch := omega) only [znI_le, zg_in, zcl]
    rw [if_neg (by omega), p_hasBit _ _ (show i < 32 by omega), zb_s, bI_0, zset]
    cases zbit (σ 58 u) i with
    | false => simp only [Bool.false_and, nI_1]; rfl
    | true =>
      rw [if_pos rfl]
      simp (disch := omega) only [zk28, nI_mul, nI_add, zg_in, zcl, nI_1, Bool.true_and]
      by_cases q : σ 61 (u * 28 + i) &&& w = 0
      · rw [if_pos q, decide_eq_true q]; rfl
      · rw [if_neg q, decide_eq_false q]; rfl
  · rw [f_X4_comeWithRight_2_6, hc, if_pos (Int32.le_refl _)]; rfl
def zXr (s : zs) : zX := fun u t => zbit (s 58 u) t
def zQsd (c s0 : zs) (n : Nat) (x : Option (Int32 × zs)) : Prop := ∃ s : zs, x = some (0, s) ∧ (∀ p, p ≠ 59 → s p = s0 p) ∧ s 59 = zal c n (zXr s0) (s0 59) 6
theorem p_send (hn : n ≤ 28) (h : ∀ t, t < n → RTk c m K t) {s0 : zs} (hc : s0 2 0 = nI n) (h3 : s0 3 = c 3) (h61 : ∀ u, u < 6 → ∀ t, t < n → s0 61 (u * 28 + t) = zopen c (nI u) t) : zQsd c s0 n (f_X4_sendThroughMailboxes_2 s0) := by
  rw [f_X4_sendThroughMailboxes_2, zi0]
  refine zli1 (Q := zQsd c s0 n) 6 (fun j s a => a = nI j ∧ (∀ p, p ≠ 59 → s p = s0 p) ∧ s 59 = zal c n (zXr s0) (s0 59) j) ?_ ?_ 1000 (by omega) ⟨rfl, fun _ _ => rfl, rfl⟩
  · rintro j hj s a ⟨rfl, hf, hv⟩ rec kk
    have ez : ∀ w : Int32, zset (fun t => zbit (s 58 j) t && !decide (s 61 (j * 28 + t) &&& w = 0)) n = zset (fun t => zXr s0 j t && zgt c w j t) n := by
      intro w
      refine zset_cong (fun t ht => ?_)
      rw [hf 58 (by decide), hf 61 (by decide), h61 j hj t ht]; rfl
    have hcs : s 2 0 = nI n := by rw [hf 2 (by decide)]; exact hc
    rw [f_X4_sendThroughMailboxes_2_2, if_neg (by rw [zk6, znI_le (by omega) (by omega)]; omega), p_come hn hcs hj, zb_s, p_come hn hcs hj, zb_s, ez, ez, zi0]
    have hw2 : ∀ t, t < n → zbit (zset (fun t => zXr s0 j t && zgt c 2 j t) n) t = (zXr s0 j t && zgt c 2 j t) := fun t ht => by rw [zbit_set _ (by omega), decide_eq_true ht, Bool.true_and]
    have hj1 : zal c n (zXr s0) (s0 59) (j + 1) = zfold (zsd (fun t => decide (zob c t < 6) && (zXr s0 j t && zgt c 2 j t)) (zob c) (zset (fun t => zXr s0 j t && zgt c 4 j t) n)) (zal c n (zXr s0) (s0 59) j) n := rfl
    refine zli4 (Q := zQsd c s0 n) n (fun i s a b d e => a = nI j ∧ b = zset (fun t => zXr s0 j t && zgt c 4 j t) n ∧ d = zset (fun t => zXr s0 j t && zgt c 2 j t) n ∧ e = nI i ∧ (∀ p, p ≠ 59 → s p = s0 p) ∧ s 59 = zfold (zsd (fun t => decide (zob c t < 6) && (zXr s0 j t && zgt c 2 j t)) (zob c) (zset (fun t => zXr s0 j t && zgt c 4 j t) n)) (zal c n (zXr s0) (s0 59) j) i) ?_ ?_ 1000 (by omega) ⟨rfl, rfl, rfl, rfl, hf, hv⟩
    · rintro i hi s a b d e ⟨rfl, rfl, rfl, rfl, hf, hv⟩ rec2 kk2
      obtain ⟨o1, o2, o3⟩ := zr_N (RT_obj (h i hi)).2
      have hst : zfold (zsd (fun t => decide (zob c t < 6) && (zXr s0 j t && zgt c 2 j t)) (zob c) (zset (fun t => zXr s0 j t && zgt c 4 j t) n)) (zal c n (zXr s0) (s0 59) j) (i + 1) = zsd (fun t => decide (zob c t < 6) && (zXr s0 j t && zgt c 2 j t)) (zob c) (zset (fun t => zXr s0 j t && zgt c 4 j t) n) (zfold (zsd (fun t => decide (zob c t < 6) && (zXr s0 j t && zgt c 2 j t)) (zob c) (zset (fun t => zXr s0 j t && zgt c 4 j t) n)) (zal c n (zXr s0) (s0 59) j) i) i := rfl
      generalize zfold (zsd (fun t => decide (zob c t < 6) && (zXr s0 j t && zgt c 2 j t)) (zob c) (zset (fun t => zXr s0 j t && zgt c 4 j t) n)) (zal c n (zXr s0) (s0 59) j) i = f at hv hst
      rw [f_X4_sendThroughMailboxes_2_28, hf 2 (by decide), hc]
      simp (disch := omega) only [znI_le, zg_in, zcl]
      rw [if_neg (by omega), p_hasBit _ _ (show i < 32 by omega), zb_s, bI_0, hw2 i hi, hf 3 (by decide), h3, nI_1]
      cases hb : (zXr s0 j i && zgt c 2 j i) with
      | false =>
        rw [if_neg (by decide)]
        refine kk2 _ _ _ _ _ ⟨rfl, rfl, rfl, rfl, hf, ?_⟩
        rw [hst]
        unfold zsd
        rw [if_neg (by show ¬ (decide (zob c i < 6) && (zXr s0 j i && zgt c 2 j i)) = true; rw [hb]; simp)]; exact hv
      | true =>
        rw [if_pos rfl, o1, zcl o3]
        have o4 : zN (c 3 i) = zob c i := rfl
        rw [o4] at o2 o3 ⊢
        by_cases q : zob c i < 6
        · rw [if_neg (by rw [zk6, znI_le (by omega) (by omega)]; omega), zg_in _ q (by omega), zg_in _ q (by omega)]
          refine kk2 _ _ _ _ _ ⟨rfl, rfl, rfl, rfl, fun p hp => by rw [zp_n _ _ _ hp]; exact hf p hp, ?_⟩
          rw [hst]
          unfold zsd
          rw [if_pos (by show (decide (zob c i < 6) && (zXr s0 j i && zgt c 2 j i)) = true; rw [hb, decide_eq_true q]; rfl), zp_k, hv]
        · rw [if_pos (by rw [zk6, znI_le (by omega) (by omega)]; omega)]
          refine kk2 _ _ _ _ _ ⟨rfl, rfl, rfl, rfl, hf, ?_⟩
          rw [hst]
          unfold zsd
          rw [if_neg (by show ¬ (decide (zob c i < 6) && (zXr s0 j i && zgt c 2 j i)) = true; rw [decide_eq_false q]; simp)]; exact hv
    · rintro s a b d e ⟨rfl, rfl, rfl, rfl, hf, hv⟩ rec2
      rw [f_X4_sendThroughMailboxes_2_28, hf 2 (by decide), hc, if_pos (Int32.le_refl _), nI_1]
      exact kk _ _ ⟨rfl, hf, by rw [hj1]; exact hv⟩
  · rintro s a ⟨rfl, hf, hv⟩ rec
    rw [f_X4_sendThroughMailboxes_2_2, if_pos (by decide)]
    exact ⟨s, rfl, hf, hv⟩
end PW
