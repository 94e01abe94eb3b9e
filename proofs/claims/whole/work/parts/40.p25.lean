/-! what could come: the class finds it -/
theorem zfr_bit (s : zs) (u t : Nat) (ht : t < 32) : zbit (zfr s u) t = (zbit (s 59 u) t && !zbit (s 58 u) t) := by
  unfold zfr
  rw [zbit_and, zbit_not _ ht]
section PX
variable {σ τ c : zs} {m : Nat → Int32} {K n : Nat}
def zQfi (σ : zs) (n : Nat) (B : zX) (x : Option (Int32 × zs)) : Prop := ∃ s : zs, x = some (0, s) ∧ (∀ p, p ≠ 13 → p ≠ 58 → p ≠ 59 → p ≠ 60 → p ≠ 61 → s p = σ p) ∧ zis (s 58) (zRb σ n B 168) ∧ (∀ u, u < 6 → ∀ t, t < n → s 61 (u * 28 + t) = zopen σ (nI u) t) ∧ ∀ u, u < 6 → ∀ t, t < n → ∀ k, zRb σ n B k u t = true → (∀ j, j < k → zRb σ n B j u t = false) → s 60 (u * 28 + t) = nI k
theorem p_find (hn : n ≤ 28) (hK : K < 100000) (hc : σ 2 0 = nI n) (h : ∀ t, t < n → RTk σ m K t) {np nx : Nat} (hnp : np ≤ 4) (hnx : nx ≤ 12) (h14 : σ 14 3 = nI nx) (hx : ∀ b, b < nx → zr (σ 17 b) np ∧ zr (σ 18 b) n) : zQfi σ n (zBb σ n nx) (f_X4_find_1 σ) := by
  obtain ⟨s1, g1, g2, g3⟩ := p_findOpen hn hK hc h
  obtain ⟨s2, k1, k2, k3, k4⟩ := p_findFirst (σ := s1) (n := n) hn (by rw [g2 2 (by decide) (by decide)]; exact hc) hnp hnx (by rw [g2 14 (by decide) (by decide)]; exact h14) (fun b hb => by rw [g2 17 (by decide) (by decide), g2 18 (by decide) (by decide)]; exact hx b hb)
  have eB : zBb s1 n nx = zBb σ n nx := by
    unfold zBb zcan
    rw [g2 6 (by decide) (by decide), g2 16 (by decide) (by decide), g2 17 (by decide) (by decide), g2 18 (by decide) (by decide), g2 19 (by decide) (by decide)]
  rw [eB] at k4
  generalize hB : zBb σ n nx = B at k4
  have hBn : ∀ u t, B u t = true → t < n := by
    intro u t ht
    rw [← hB] at ht
    unfold zBb at ht
    rcases (Bool.or_eq_true _ _).mp ht with q | q
    · rw [Bool.and_eq_true, decide_eq_true_eq] at q; exact q.1
    · obtain ⟨b, hb, q2⟩ := (zany_iff _ _).mp q
      rw [Bool.and_eq_true, beq_iff_eq] at q2
      have := (zr_N (hx b hb).2).2.1
      omega
  have hRn := zRb_n (c := σ) (n := n) hBn
  rw [f_X4_find_1, g1, zb_s, k1, zb_s, zi0, show (1 : Int32) = bI true from rfl]
  refine zli2 (Q := zQfi σ n B) 169 (fun k s a b => ∃ mo : Bool, a = bI mo ∧ b = nI k ∧ (∀ p, p ≠ 13 → p ≠ 58 → p ≠ 59 → p ≠ 60 → p ≠ 61 → s p = σ p) ∧ (∀ u, u < 6 → ∀ t, t < n → s 61 (u * 28 + t) = zopen σ (nI u) t) ∧ (k = 0 → mo = true ∧ (∀ u, u < 6 → s 58 u = 0)) ∧ (∀ k', k = k' + 1 → zis (s 58) (zRb σ n B k') ∧ (mo = false → zclo σ n (zRb σ n B k'))) ∧ zis (s 59) (zRb σ n B k) ∧ ∀ u, u < 6 → ∀ t, t < n → ∀ j, j < k → zRb σ n B j u t = true → (∀ i, i < j → zRb σ n B i u t = false) → s 60 (u * 28 + t) = nI j) ?_ ?_ 1000 (by omega) ⟨true, rfl, rfl, fun p p1 p2 p3 p4 p5 => by rw [k2 p p2 p3, g2 p p1 p5], fun u hu t ht => by rw [k2 61 (by decide) (by decide)]; exact g3 u hu t ht, fun _ => ⟨rfl, k3⟩, fun k' hk' => absurd hk' (by omega), k4, fun _ _ _ _ j hj => absurd hj (by omega)⟩
  · rintro k hk s a b ⟨mo, rfl, rfl, hf, h61, hP0, hP1, h59, h60⟩ rec kk
    rw [f_X4_find_1_14, if_neg (by rw [show (168 : Int32) = nI 168 from rfl, znI_lt (by omega) (by omega)]; omega)]
    cases mo with
    | false =>
      rw [if_pos (show bI false = 0 from rfl)]
      have hk0 : k ≠ 0 := fun e => absurd (hP0 e).1 (by decide)
      obtain ⟨k', rfl⟩ : ∃ k', k = k' + 1 := ⟨k - 1, by omega⟩
      obtain ⟨q1, q2⟩ := hP1 k' rfl
      have hcl := q2 rfl
      refine ⟨s, rfl, hf, fun u hu t ht => by rw [q1 u hu t ht]; exact zRb_fix hn hcl u hu t, h61, fun u hu t ht k0 r1 r2 => ?_⟩
      by_cases q : k0 < k' + 1
      · exact h60 u hu t ht k0 q r1 r2
      · have := zRb_in (zRb_le σ n B (j := 0) (Nat.zero_le k')) hcl k0 u hu t r1
        rw [r2 k' (by omega)] at this; cases this
    | true =>
      have hcs : s 2 0 = nI n := by rw [hf 2 (by decide) (by decide) (by decide) (by decide) (by decide)]; exact hc
      obtain ⟨mb, s3, e1, e2, e3, e4, e5⟩ := p_settle hn s (k := k) (by omega)
      obtain ⟨s4, w1, w2, w3⟩ := p_send (c := σ) hn h (s0 := s3) (by rw [e3 2 (by decide) (by decide)]; exact hcs) (by rw [e3 3 (by decide) (by decide), hf 3 (by decide) (by decide) (by decide) (by decide) (by decide)]) (fun u hu t ht => by rw [e3 61 (by decide) (by decide)]; exact h61 u hu t ht)
      have hfb : ∀ u, u < 6 → ∀ t, t < 32 → zbit (zfr s u) t = (zRb σ n B k u t && !zbit (s 58 u) t) := fun u hu t ht => by rw [zfr_bit _ _ _ ht, h59 u hu t ht]
      have h58 : zis (s3 58) (zRb σ n B k) := by
        intro u hu t ht
        rw [e4 u hu, zbit_or, hfb u hu t ht]
        cases k with
        | zero => rw [(hP0 rfl).2 u hu, zbit_0]; simp
        | succ k' =>
          rw [(hP1 k' rfl).1 u hu t ht]
          cases q : zRb σ n B k' u t with
          | false => simp
          | true => rw [zRb_s σ n B k' u hu t q]; rfl
      rw [if_neg (show ¬ bI true = 0 by decide), hcs, e1, zb_s, w1, zb_s, nI_1]
      refine kk _ _ _ ⟨mb, rfl, rfl, fun p p1 p2 p3 p4 p5 => by rw [w2 p p3, e3 p p2 p4]; exact hf p p1 p2 p3 p4 p5, fun u hu t ht => by rw [w2 61 (by decide), e3 61 (by decide) (by decide)]; exact h61 u hu t ht, fun e => absurd e (by omega), fun k2 hk2 => ?_, fun u hu t ht => ?_, fun u hu t ht j hj r1 r2 => ?_⟩
      · obtain rfl : k = k2 := by omega
        refine ⟨by rw [w2 58 (by decide)]; exact h58, fun hmo => ?_⟩
        rw [hmo] at e2
        have e2' := e2.symm
        rw [Bool.or_eq_false_iff, decide_eq_false_iff_not] at e2'
        obtain ⟨hk0, hno⟩ := e2'
        obtain ⟨k', rfl⟩ : ∃ k', k = k' + 1 := ⟨k - 1, by omega⟩
        have hsub : zsub (zRb σ n B (k' + 1)) (zRb σ n B k') := by
          intro u hu t ht
          have htn := hRn _ u t ht
          have h1 := zany_no.mp (zany_no.mp hno u hu) t htn
          rw [hfb u hu t (by omega), ht, (hP1 k' rfl).1 u hu t (by omega)] at h1
          simpa using h1
        exact zsub_t (zFb_mono hsub) (fun u hu t ht => by
          show (zRb σ n B k' u t || zFb σ n (zRb σ n B k') u t) = true
          rw [ht]; simp)
      · rw [w3, zal_bit hn, e3 59 (by decide) (by decide), h59 u hu t ht, zFb_cong (X := zXr s3) hn (Y := zRb σ n B k) (fun u hu t ht => h58 u hu t ht)]; rfl
      · rw [w2 60 (by decide), e5 u hu t ht, hfb u hu t (by omega)]
        by_cases q : j = k
        · subst q
          have h0 : zbit (s 58 u) t = false := by
            cases j with
            | zero => rw [(hP0 rfl).2 u hu, zbit_0]
            | succ k' => rw [(hP1 k' rfl).1 u hu t (by omega)]; exact r2 k' (by omega)
          rw [r1, h0]; rfl
        · have h1 : zbit (s 58 u) t = true := by
            cases k with
            | zero => omega
            | succ k' => rw [(hP1 k' rfl).1 u hu t (by omega)]; exact zRb_le σ n B (j := j) (by omega) u hu t r1
          rw [h1, if_neg (by simp)]
          exact h60 u hu t ht j (by omega) r1 r2
  · rintro s a b ⟨mo, rfl, rfl, hf, h61, hP0, hP1, h59, h60⟩ rec
    rw [f_X4_find_1_14, if_pos (by decide)]
    refine ⟨s, rfl, hf, (hP1 168 rfl).1, h61, fun u hu t ht k0 r1 r2 => ?_⟩
    by_cases q : k0 < 169
    · exact h60 u hu t ht k0 q r1 r2
    · have := zRb_in (zRb_le σ n B (j := 0) (Nat.zero_le 168)) (zRb_clo hn B) k0 u hu t r1
      rw [r2 168 (by omega)] at this; cases this
def zobs (c : zs) (p : Nat → Bool) (n : Nat) : Int32 := zfold (fun v t => if p t then v ||| ((1 : Int32) <<< (c 3 t &&& 31)) else v) 0 n
theorem p_objectsOf (hn : n ≤ 28) (hc : σ 2 0 = nI n) {u : Nat} (hu : u < 6) : f_X4_objectsOf_2 σ (nI u) = some (zobs σ (fun t => zbit (σ 58 u) t && !decide (σ 61 (u * 28 + t) &&& 15 = 0)) n, σ) := by
  rw [f_X4_objectsOf_2, p_come hn hc hu, zb_s, zi0]
  refine zlr3 n (fun _ => σ) (zobs σ (fun t => zbit (σ 58 u) t && !decide (σ 61 (u * 28 + t) &&& 15 = 0))) (fun _ => zset (fun t => zbit (σ 58 u) t && !decide (σ 61 (u * 28 + t) &&& 15 = 0)) n) nI (fun i hi rec => ?_) (fun rec => ?_) 1000 (by omega)
  · rw [f_X4_objectsOf_2_15, hc]
    simp (disch := omega) only [znI_le, zg_in, zcl]
    rw [if_neg (by omega), p_hasBit _ _ (show i < 32 by omega), zb_s, bI_0, zbit_set _ (by omega), decide_eq_true hi, Bool.true_and, nI_1]
    have hs : zobs σ (fun t => zbit (σ 58 u) t && !decide (σ 61 (u * 28 + t) &&& 15 = 0)) (i + 1) = if (zbit (σ 58 u) i && !decide (σ 61 (u * 28 + i) &&& 15 = 0)) then zobs σ (fun t => zbit (σ 58 u) t && !decide (σ 61 (u * 28 + t) &&& 15 = 0)) i ||| ((1 : Int32) <<< (σ 3 i &&& 31)) else zobs σ (fun t => zbit (σ 58 u) t && !decide (σ 61 (u * 28 + t) &&& 15 = 0)) i := rfl
    rw [hs]
    cases (zbit (σ 58 u) i && !decide (σ 61 (u * 28 + i) &&& 15 = 0)) <;> rfl
  · rw [f_X4_objectsOf_2_15, hc, if_pos (Int32.le_refl _)]; rfl
/-! what could come: the reference -/
def zQbg (τ c : zs) (n nx : Nat) (x : Option (Int32 × zs)) : Prop := ∃ s : zs, x = some (0, s) ∧ (∀ p, p ≠ 73 → s p = τ p) ∧ zis (s 73) (zBb c n nx)
theorem m_begins (hn : n ≤ 28) (hm : τ 66 1 = nI n) (h : ∀ t, t < n → RTk c (τ 66) K t) (hB : RBx c (τ 66) n) {nx : Nat} (hnx : nx ≤ 12) (h3 : τ 66 3 = nI nx) : zQbg τ c n nx (f_X9_begins τ) := by
  obtain ⟨np, nx', hnp, hnx', -, ⟨-, x2⟩, hp, hx⟩ := hB
  obtain rfl : nx' = nx := by
    rw [h3] at x2
    rw [znI_inj (by omega) (by omega)] at x2; exact x2.symm
  rw [f_X9_begins, zi0]
  refine zli1 (Q := zQbg τ c n nx') 6 (fun j s a => a = nI j ∧ (∀ p, p ≠ 73 → s p = τ p) ∧ ∀ u, u < j → s 73 u = zset (fun t => zbit (c 6 t) u) n) ?_ ?_ 1000 (by omega) ⟨rfl, fun _ _ => rfl, fun u hu => absurd hu (by omega)⟩
  · rintro j hj s a ⟨rfl, hf, hv⟩ rec kk
    have e66 : s 66 = τ 66 := hf 66 (by decide)
    rw [f_X9_begins_2, if_neg (by rw [zk6, znI_le (by omega) (by omega)]; omega), m_heldBy (τ := s) (c := c) (K := K) hn (by rw [e66]; exact hm) (by rw [e66]; exact h) hj, zb_s, zg_in _ (by omega) (by omega), zcl (by omega), nI_1]
    refine kk _ _ ⟨rfl, fun p p1 => by rw [zp_n _ _ _ p1]; exact hf p p1, fun u hu => ?_⟩
    by_cases e : u = j
    · subst e; rw [zp_e]
    · rw [zp_o _ _ e]; exact hv u (by omega)
  · rintro s a ⟨rfl, hf, hv⟩ rec
    rw [f_X9_begins_2, if_pos (by decide), zi0]
    refine zli1 (Q := zQbg τ c n nx') nx' (fun b s a => a = nI b ∧ (∀ p, p ≠ 73 → s p = τ p) ∧ ∀ u, u < 6 → ∀ t, t < 32 → zbit (s 73 u) t = ((decide (t < n) && zbit (c 6 t) u) || zany (fun b => zcan c u b && (zN (c 18 b) == t)) b)) ?_ ?_ 1000 (by omega) ⟨rfl, hf, fun u hu t ht => by rw [hv u hu, zbit_set _ (by omega)]; simp [zany]⟩
    · rintro b hb s a ⟨rfl, hf, hv⟩ rec kk
      obtain ⟨⟨y1, y2⟩, ⟨y3, y4⟩, y5, y6⟩ := hx b hb
      obtain ⟨q1, q2, q3⟩ := zr_N y2
      obtain ⟨r1, r2, r3⟩ := zr_N y4
      have hpp := (hp (zN (c 17 b)) q2).2.1
      rw [f_X9_begins_27, zG3, zC3, hf 66 (by decide), h3]
      simp (disch := omega) only [znI_le]
      rw [if_neg (by omega), zi0]
      refine zli2 (Q := zQbg τ c n nx') 6 (fun j s x y => x = nI b ∧ y = nI j ∧ (∀ p, p ≠ 73 → s p = τ p) ∧ ∀ u, u < 6 → ∀ t, t < 32 → zbit (s 73 u) t = ((decide (t < n) && zbit (c 6 t) u) || zany (fun b => zcan c u b && (zN (c 18 b) == t)) (if u < j then b + 1 else b))) ?_ ?_ 1000 (by omega) ⟨rfl, rfl, hf, fun u hu t ht => by rw [if_neg (by omega)]; exact hv u hu t ht⟩
      · rintro j hj s x y ⟨rfl, rfl, hf, hv⟩ rec2 kk2
        have e66 : s 66 = τ 66 := hf 66 (by decide)
        -- one subject more
        have key : ∀ s' : zs, (∀ p, p ≠ 73 → s' p = s p) → (∀ u, u ≠ j → s' 73 u = s 73 u) → (∀ t, t < 32 → zbit (s' 73 j) t = (zbit (s 73 j) t || (zcan c j b && (zN (c 18 b) == t)))) → zQbg τ c n nx' (rec2 s' (nI b) (nI (j + 1))) := by
          intro s' f1 f2 f3
          refine kk2 _ _ _ ⟨rfl, rfl, fun p hp2 => by rw [f1 p hp2]; exact hf p hp2, fun u hu t ht => ?_⟩
          by_cases e : u = j
          · subst e
            rw [f3 t ht, hv u hu t ht, if_neg (by omega), if_pos (by omega), zany, Bool.or_assoc]
          · rw [f2 u e, hv u hu t ht]
            by_cases q : u < j
            · rw [if_pos q, if_pos (by omega)]
            · rw [if_neg q, if_neg (by omega)]
        rw [f_X9_begins_39, if_neg (by rw [zk6, znI_le (by omega) (by omega)]; omega)]
        simp (disch := omega) only [zk587, zk563, zk575, nI_add, zg_in, zcl, e66, y5, y1, y3]
        rw [p_has _ _ (show j < 32 by omega), zb_s, bI_0, nI_1]
        cases hb1 : zbit (c 19 b) j with
        | false =>
          rw [if_neg (by decide)]
          exact key s (fun _ _ => rfl) (fun _ _ => rfl) (fun t ht => by unfold zcan; rw [hb1]; simp)
        | true =>
          rw [if_pos rfl]
          have e559 : (559 : Int32) + c 17 b = nI (559 + zN (c 17 b)) := by rw [zk559, q1, nI_add, zN_nI q3]
          simp only [e66, y1]
          rw [e559]
          simp (disch := omega) only [zg_in, zcl, e66, hpp]
          rw [p_has _ _ (show j < 32 by omega), zb_s, bI_0]
          cases hb2 : zbit (c 16 (zN (c 17 b))) j with
          | false =>
            rw [if_neg (by decide)]
            exact key s (fun _ _ => rfl) (fun _ _ => rfl) (fun t ht => by unfold zcan; rw [hb1, hb2]; simp)
          | true =>
            rw [if_pos rfl]
            simp (disch := omega) only [e66, y3]
            refine key _ (fun p hp2 => zp_n _ _ _ hp2) (fun u hu => zp_o _ _ hu) (fun t ht => ?_)
            rw [zp_e, zbit_or, r1, zN_nI r3, zbit_1s (by omega) ht]
            unfold zcan
            rw [hb1, hb2]
            by_cases q : t = zN (c 18 b)
            · rw [decide_eq_true q, q]; simp
            · rw [decide_eq_false q, beq_eq_false_iff_ne.mpr (Ne.symm q)]; simp
      · rintro s x y ⟨rfl, rfl, hf, hv⟩ rec2
        rw [f_X9_begins_39, if_pos (by decide), nI_1]
        exact kk _ _ ⟨rfl, hf, fun u hu t ht => by rw [hv u hu t ht, if_pos hu]⟩
    · rintro s a ⟨rfl, hf, hv⟩ rec
      rw [f_X9_begins_27, zG3, zC3, hf 66 (by decide), h3, if_pos (Int32.le_refl _)]
      exact ⟨s, rfl, hf, hv⟩
end PX
