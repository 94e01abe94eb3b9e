/-! what could come: the reference, going on -/
def zXm (s : zs) : zX := fun u t => zbit (s 73 u) t
section PY
variable {σ τ c : zs} {m : Nat → Int32} {K n : Nat}
theorem zgt_e (c : zs) (w : Int32) (u t : Nat) : (zopen c (nI u) t &&& w = 0) = (zgt c w u t = false) := by
  unfold zgt
  by_cases q : zopen c (nI u) t &&& w = 0
  · rw [decide_eq_true q]; simp [q]
  · rw [decide_eq_false q]; simp [q]
def zQgr (c τ : zs) (n : Nat) (x : Option (Int32 × zs)) : Prop := ∃ (b : Bool) (s : zs), x = some (bI b, s) ∧ (∀ p, p ≠ 73 → p ≠ 74 → s p = τ p) ∧ (∀ u, u < 6 → s 73 u = zal c n (zXm τ) (τ 73) 6 u) ∧ b = zany (fun u => !decide (zal c n (zXm τ) (τ 73) 6 u = τ 73 u)) 6
theorem m_goesRound (hn : n ≤ 28) (hm : τ 66 1 = nI n) (h : ∀ t, t < n → RTk c (τ 66) K t) (h0 : τ 66 0 = c 1 5) : zQgr c τ n (f_X9_goesRound τ) := by
  rw [f_X9_goesRound, zi0]
  refine zli1 (Q := zQgr c τ n) 6 (fun j s a => a = nI j ∧ (∀ p, p ≠ 74 → s p = τ p) ∧ ∀ u, u < j → s 74 u = τ 73 u) ?_ ?_ 1000 (by omega) ⟨rfl, fun _ _ => rfl, fun u hu => absurd hu (by omega)⟩
  · rintro j hj s a ⟨rfl, hf, hv⟩ rec kk
    rw [f_X9_goesRound_2, if_neg (by rw [zk6, znI_le (by omega) (by omega)]; omega)]
    simp (disch := omega) only [zg_in, zcl, nI_1]
    refine kk _ _ ⟨rfl, fun p p1 => by rw [zp_n _ _ _ p1]; exact hf p p1, fun u hu => ?_⟩
    by_cases e : u = j
    · subst e; rw [zp_e, hf 73 (by decide)]
    · rw [zp_o _ _ e]; exact hv u (by omega)
  · rintro s a ⟨rfl, hf, hv⟩ rec
    rw [f_X9_goesRound_2, if_pos (by decide), zi0]
    refine zli1 (Q := zQgr c τ n) 6 (fun j s a => a = nI j ∧ (∀ p, p ≠ 74 → s p = τ p) ∧ ∀ u, u < 6 → s 74 u = zal c n (zXm τ) (τ 73) j u) ?_ ?_ 1000 (by omega) ⟨rfl, hf, hv⟩
    · rintro j hj s a ⟨rfl, hf, hv⟩ rec kk
      have e66 : s 66 = τ 66 := hf 66 (by decide)
      have e73 : s 73 = τ 73 := hf 73 (by decide)
      have hop : ∀ (w : zs), w 66 = τ 66 → ∀ i, i < n → f_X9_openRights w (nI j) (nI i) = some (zopen c (nI j) i, w) := fun w e i hi => m_openRights (c := c) (K := K) hn (by rw [e]; exact h) (by rw [e]; exact h0) hi (nI j)
      rw [f_X9_goesRound_28, if_neg (by rw [zk6, znI_le (by omega) (by omega)]; omega), zi0]
      -- what is granted
      refine zli3 (Q := zQgr c τ n) n (fun i s2 x y z => s2 = s ∧ x = nI j ∧ y = zset (fun t => zXm τ j t && zgt c 4 j t) i ∧ z = nI i) ?_ ?_ 1000 (by omega) ⟨rfl, rfl, rfl, rfl⟩
      · rintro i hi s2 x y z ⟨rfl, rfl, rfl, rfl⟩ rec2 kk2
        rw [f_X9_goesRound_38, zG1, zC1, e66, hm]
        simp (disch := omega) only [znI_le, zg_in, zcl]
        rw [if_neg (by omega), e73, p_has _ _ (show i < 32 by omega), zb_s, bI_0]
        cases hb : zbit (τ 73 j) i with
        | false =>
          rw [if_neg (by decide), f_X9_goesRound_80, zor0, nI_1]
          refine kk2 _ _ _ _ ⟨rfl, rfl, ?_, rfl⟩
          rw [zset, show zXm τ j i = false from hb]; rfl
        | true =>
          rw [if_pos rfl, hop s2 e66 i hi, zb_s]
          by_cases q : zopen c (nI j) i &&& 4 = 0
          · rw [if_pos q, f_X9_goesRound_80, zor0, nI_1]
            refine kk2 _ _ _ _ ⟨rfl, rfl, ?_, rfl⟩
            rw [zgt_e] at q
            rw [zset, q, Bool.and_false]; rfl
          · rw [if_neg q, f_X9_goesRound_80, nI_1]
            refine kk2 _ _ _ _ ⟨rfl, rfl, ?_, rfl⟩
            rw [zgt_e] at q
            rw [zset, show zXm τ j i = true from hb, Bool.true_and, if_pos (by simpa using q)]
      · rintro s2 x y z ⟨rfl, rfl, rfl, rfl⟩ rec2
        rw [f_X9_goesRound_38, zG1, zC1, e66, hm, if_pos (Int32.le_refl _), zi0]
        have hj1 : zal c n (zXm τ) (τ 73) (j + 1) = zfold (zsd (fun t => decide (zob c t < 6) && (zXm τ j t && zgt c 2 j t)) (zob c) (zset (fun t => zXm τ j t && zgt c 4 j t) n)) (zal c n (zXm τ) (τ 73) j) n := rfl
        generalize zset (fun t => zXm τ j t && zgt c 4 j t) n = G at hj1
        -- what is sent
        refine zli3 (Q := zQgr c τ n) n (fun i s x y z => x = nI j ∧ y = G ∧ z = nI i ∧ (∀ p, p ≠ 74 → s p = τ p) ∧ ∀ u, u < 6 → s 74 u = zfold (zsd (fun t => decide (zob c t < 6) && (zXm τ j t && zgt c 2 j t)) (zob c) G) (zal c n (zXm τ) (τ 73) j) i u) ?_ ?_ 1000 (by omega) ⟨rfl, rfl, rfl, hf, hv⟩
        · rintro i hi s x y z ⟨rfl, rfl, rfl, hf, hv⟩ rec3 kk3
          have e66 : s 66 = τ 66 := hf 66 (by decide)
          have e73 : s 73 = τ 73 := hf 73 (by decide)
          obtain ⟨o1, o2, o3⟩ := zr_N (RT_obj (h i hi)).2
          have oo := (RT_obj (h i hi)).1
          have hst : zfold (zsd (fun t => decide (zob c t < 6) && (zXm τ j t && zgt c 2 j t)) (zob c) y) (zal c n (zXm τ) (τ 73) j) (i + 1) = zsd (fun t => decide (zob c t < 6) && (zXm τ j t && zgt c 2 j t)) (zob c) y (zfold (zsd (fun t => decide (zob c t < 6) && (zXm τ j t && zgt c 2 j t)) (zob c) y) (zal c n (zXm τ) (τ 73) j) i) i := rfl
          generalize zfold (zsd (fun t => decide (zob c t < 6) && (zXm τ j t && zgt c 2 j t)) (zob c) y) (zal c n (zXm τ) (τ 73) j) i = f at hv hst
          have stay : (decide (zob c i < 6) && (zXm τ j i && zgt c 2 j i)) = false → zQgr c τ n (rec3 s (nI j) y (nI (i + 1))) := fun hb => kk3 _ _ _ _ ⟨rfl, rfl, rfl, hf, fun u hu => by rw [hst, zsd, if_neg (by rw [hb]; simp)]; exact hv u hu⟩
          have o4 : zN (c 3 i) = zob c i := rfl
          rw [o4] at o1 o2 o3
          rw [f_X9_goesRound_90, zG1, zC1, e66, hm]
          simp (disch := omega) only [znI_le, zk51, nI_add, zg_in, zcl, oo]
          rw [if_neg (by omega), o1, nI_1]
          by_cases q : zob c i < 6
          · rw [if_neg (by rw [zk6, znI_le (by omega) (by omega)]; omega), e73, p_has _ _ (show i < 32 by omega), zb_s, bI_0]
            cases hb : zbit (τ 73 j) i with
            | false => exact stay (by rw [show zXm τ j i = false from hb]; simp)
            | true =>
              rw [if_pos rfl, hop s e66 i hi, zb_s]
              by_cases q2 : zopen c (nI j) i &&& 2 = 0
              · rw [if_pos q2]
                rw [zgt_e] at q2
                exact stay (by rw [q2]; simp)
              · rw [if_neg q2]
                rw [zgt_e] at q2
                have hb2 : (decide (zob c i < 6) && (zXm τ j i && zgt c 2 j i)) = true := by rw [decide_eq_true q, show zXm τ j i = true from hb]; simpa using q2
                rw [e66, oo, o1, zcl o3, zg_in _ q (by omega), zg_in _ q (by omega)]
                refine kk3 _ _ _ _ ⟨rfl, rfl, rfl, fun p p1 => by rw [zp_n _ _ _ p1]; exact hf p p1, fun u hu => ?_⟩
                rw [hst, zsd, if_pos hb2]
                by_cases e : u = zob c i
                · subst e; rw [zp_e, upd_s, hv _ q]
                · rw [zp_o _ _ e, upd_n _ _ e]; exact hv u hu
          · rw [if_pos (by rw [zk6, znI_le (by omega) (by omega)]; omega)]
            exact stay (by rw [decide_eq_false q]; rfl)
        · rintro s x y z ⟨rfl, rfl, rfl, hf, hv⟩ rec3
          rw [f_X9_goesRound_90, zG1, zC1, hf 66 (by decide), hm, if_pos (Int32.le_refl _), nI_1]
          exact kk _ _ ⟨rfl, hf, fun u hu => by rw [hj1]; exact hv u hu⟩
    · rintro s a ⟨rfl, hf, hv⟩ rec
      rw [f_X9_goesRound_28, if_pos (by decide), zi0]
      refine zli2 (Q := zQgr c τ n) 6 (fun j w x y => x = bI (zany (fun u => !decide (zal c n (zXm τ) (τ 73) 6 u = τ 73 u)) j) ∧ y = nI j ∧ (∀ p, p ≠ 73 → p ≠ 74 → w p = τ p) ∧ w 74 = s 74 ∧ ∀ u, u < 6 → w 73 u = if u < j then zal c n (zXm τ) (τ 73) 6 u else τ 73 u) ?_ ?_ 1000 (by omega) ⟨rfl, rfl, fun p _ p2 => hf p p2, rfl, fun u hu => by rw [if_neg (by omega), hf 73 (by decide)]⟩
      · rintro j hj w x y ⟨rfl, rfl, hf2, h74, h73⟩ rec kk
        have e1 := h73 j hj
        rw [if_neg (by omega)] at e1
        have e2 : w 74 j = zal c n (zXm τ) (τ 73) 6 j := by rw [h74]; exact hv j hj
        rw [f_X9_goesRound_172, if_neg (by rw [zk6, znI_le (by omega) (by omega)]; omega)]
        simp (disch := omega) only [zg_in, zcl]
        rw [e1, e2]
        have fin : zQgr c τ n (rec (zp w 73 j (zal c n (zXm τ) (τ 73) 6 j)) (bI (zany (fun u => !decide (zal c n (zXm τ) (τ 73) 6 u = τ 73 u)) (j + 1))) (nI (j + 1))) := by
          refine kk _ _ _ ⟨rfl, rfl, fun p p1 p2 => by rw [zp_n _ _ _ p1]; exact hf2 p p1 p2, by rw [zp_n _ _ _ (by decide)]; exact h74, fun u hu => ?_⟩
          by_cases e : u = j
          · subst e; rw [zp_e, if_pos (by omega)]
          · rw [zp_o _ _ e, h73 u hu]
            by_cases q : u < j
            · rw [if_pos q, if_pos (by omega)]
            · rw [if_neg q, if_neg (by omega)]
        by_cases q : zal c n (zXm τ) (τ 73) 6 j = τ 73 j
        · rw [if_pos q, f_X9_goesRound_199]
          simp (disch := omega) only [zg_in, zcl]
          rw [e2, zor0, nI_1]
          rw [zany, decide_eq_true q, Bool.not_true, Bool.or_false] at fin
          exact fin
        · rw [if_neg q, f_X9_goesRound_199]
          simp (disch := omega) only [zg_in, zcl]
          rw [e2, show (1 : Int32) = bI true from rfl, bI_or, show bI true = (1 : Int32) from rfl, nI_1]
          rw [zany, decide_eq_false q, Bool.not_false] at fin
          exact fin
      · rintro w x y ⟨rfl, rfl, hf2, h74, h73⟩ rec
        rw [f_X9_goesRound_172, if_pos (by decide), bI_g, zg_t]
        exact ⟨_, w, rfl, hf2, fun u hu => by rw [h73 u hu, if_pos hu], rfl⟩
/-- what one subject sends, while more comes -/
def zQse (c τ : zs) (n k : Nat) (x : Option (Int32 × zs)) : Prop := ∃ (b : Bool) (s : zs), x = some (bI b, s) ∧ (∀ p, p ≠ 73 → s p = τ p) ∧ zsub (zXm τ) (zXm s) ∧ (∀ Y : zX, zsub (zXm τ) Y → zclo c n Y → zsub (zXm s) Y) ∧ (b = false → (∀ u, u < 6 → s 73 u = τ 73 u) ∧ ∀ u, u < 6 → ∀ t, zgo c n (zXm τ) k u = true → zgr c n (zXm τ) k t = true → zXm τ u t = true) ∧ (b = true → zct (zXm τ) n < zct (zXm s) n)
theorem m_sends (hn : n ≤ 28) (hm : τ 66 1 = nI n) (h : ∀ t, t < n → RTk c (τ 66) K t) (h0 : τ 66 0 = c 1 5) {k : Nat} (hk : k < 6) : zQse c τ n k (f_X9_sends τ (nI k)) := by
  have hop : ∀ (w : zs), w 66 = τ 66 → ∀ i, i < n → f_X9_openRights w (nI k) (nI i) = some (zopen c (nI k) i, w) := fun w e i hi => m_openRights (c := c) (K := K) hn (by rw [e]; exact h) (by rw [e]; exact h0) hi (nI k)
  rw [f_X9_sends, zi0]
  refine zli3 (Q := zQse c τ n k) n (fun i s2 x y z => s2 = τ ∧ x = nI k ∧ y = zset (fun t => zXm τ k t && zgt c 4 k t) i ∧ z = nI i) ?_ ?_ 1000 (by omega) ⟨rfl, rfl, rfl, rfl⟩
  · rintro i hi s2 x y z ⟨rfl, rfl, rfl, rfl⟩ rec2 kk2
    rw [f_X9_sends_4, zG1, zC1, hm]
    simp (disch := omega) only [znI_le, zg_in, zcl]
    rw [if_neg (by omega), p_has _ _ (show i < 32 by omega), zb_s, bI_0]
    cases hb : zbit (s2 73 k) i with
    | false =>
      rw [if_neg (by decide), f_X9_sends_46, zor0, nI_1]
      refine kk2 _ _ _ _ ⟨rfl, rfl, ?_, rfl⟩
      rw [zset, show zXm s2 k i = false from hb]; rfl
    | true =>
      rw [if_pos rfl, hop s2 rfl i hi, zb_s]
      by_cases q : zopen c (nI k) i &&& 4 = 0
      · rw [if_pos q, f_X9_sends_46, zor0, nI_1]
        refine kk2 _ _ _ _ ⟨rfl, rfl, ?_, rfl⟩
        rw [zgt_e] at q
        rw [zset, q, Bool.and_false]; rfl
      · rw [if_neg q, f_X9_sends_46, nI_1]
        refine kk2 _ _ _ _ ⟨rfl, rfl, ?_, rfl⟩
        rw [zgt_e] at q
        rw [zset, show zXm s2 k i = true from hb, Bool.true_and, if_pos (by simpa using q)]
  · rintro s2 x y z ⟨rfl, rfl, rfl, rfl⟩ rec2
    rw [f_X9_sends_4, zG1, zC1, hm, if_pos (Int32.le_refl _), zi0]
    have hG : ∀ t, zbit (zset (fun t => zXm s2 k t && zgt c 4 k t) n) t = zgr c n (zXm s2) k t := fun t => by rw [zbit_set _ (by omega)]; rfl
    generalize zset (fun t => zXm s2 k t && zgt c 4 k t) n = G at hG
    refine zli4 (Q := zQse c s2 n k) n (fun i s x y z w => ∃ b : Bool, x = nI k ∧ y = G ∧ z = bI b ∧ w = nI i ∧ (∀ p, p ≠ 73 → s p = s2 p) ∧ zsub (zXm s2) (zXm s) ∧ (∀ Y : zX, zsub (zXm s2) Y → zclo c n Y → zsub (zXm s) Y) ∧ (b = false → (∀ u, u < 6 → s 73 u = s2 73 u) ∧ ∀ t', t' < i → zob c t' < 6 → zXm s2 k t' = true → zgt c 2 k t' = true → ∀ t, zgr c n (zXm s2) k t = true → zXm s2 (zob c t') t = true) ∧ (b = true → zct (zXm s2) n < zct (zXm s) n)) ?_ ?_ 1000 (by omega) ⟨false, rfl, rfl, rfl, rfl, fun _ _ => rfl, zsub_r _, fun Y hY _ => hY, fun _ => ⟨fun _ _ => rfl, fun t' ht' => absurd ht' (by omega)⟩, fun e => by cases e⟩
    · rintro i hi s x y z w ⟨b, rfl, rfl, rfl, rfl, hf, hs1, hs2, hs3, hs4⟩ rec3 kk3
      have e66 : s 66 = s2 66 := hf 66 (by decide)
      obtain ⟨o1, o2, o3⟩ := zr_N (RT_obj (h i hi)).2
      have oo := (RT_obj (h i hi)).1
      have o4 : zN (c 3 i) = zob c i := rfl
      rw [o4] at o1 o2 o3
      -- nothing is sent with this token
      have stay : (zob c i < 6 → zXm s k i = true → zgt c 2 k i = true → False) → zQse c s2 n k (rec3 s (nI k) y (bI b) (nI (i + 1))) := by
        intro hno
        refine kk3 _ _ _ _ _ ⟨b, rfl, rfl, rfl, rfl, hf, hs1, hs2, fun hb => ⟨(hs3 hb).1, fun t' ht' r1 r2 r3 t ht => ?_⟩, hs4⟩
        by_cases e : t' = i
        · subst e; exact absurd (hno r1 (hs1 k hk _ r2) r3) id
        · exact (hs3 hb).2 t' (by omega) r1 r2 r3 t ht
      rw [f_X9_sends_59, zG1, zC1, e66, hm]
      simp (disch := omega) only [znI_le, zk51, nI_add, zg_in, zcl, oo]
      rw [if_neg (by omega), o1, nI_1]
      by_cases q : zob c i < 6
      · rw [if_neg (by rw [zk6, znI_le (by omega) (by omega)]; omega), p_has _ _ (show i < 32 by omega), zb_s, bI_0]
        cases hb : zbit (s 73 k) i with
        | false => exact stay (fun _ e _ => by rw [show zXm s k i = false from hb] at e; cases e)
        | true =>
          rw [if_pos rfl, hop s e66 i hi, zb_s]
          by_cases q2 : zopen c (nI k) i &&& 2 = 0
          · rw [if_pos q2]
            rw [zgt_e] at q2
            exact stay (fun _ _ e => by rw [q2] at e; cases e)
          · rw [if_neg q2]
            rw [zgt_e] at q2
            have q2' : zgt c 2 k i = true := by simpa using q2
            rw [zcl o3, zg_in _ q (by omega)]
            by_cases q3 : y &&& (s 73 (zob c i) ^^^ (-1 : Int32)) = 0
            · -- nothing new
              have hall : ∀ t, t < 32 → zbit y t = true → zbit (s 73 (zob c i)) t = true := by
                intro t ht hy
                have e := congrArg (fun v => zbit v t) q3
                simp only [zbit_and, zbit_not _ ht, zbit_0, hy, Bool.true_and] at e
                simpa using e
              have esame : s 73 (zob c i) ||| y = s 73 (zob c i) := by
                apply zbit_ext
                intro t ht
                rw [zbit_or]
                cases e : zbit y t with
                | false => simp
                | true => rw [hall t ht e]; rfl
              rw [if_pos q3, f_X9_sends_135]
              simp (disch := omega) only [zg_in, zcl]
              rw [esame, zor0, nI_1]
              have ez : ∀ u, (zp s 73 (zob c i) (s 73 (zob c i))) 73 u = s 73 u := fun u => by
                by_cases e : u = zob c i
                · subst e; rw [zp_e]
                · rw [zp_o _ _ e]
              have eX : zXm (zp s 73 (zob c i) (s 73 (zob c i))) = zXm s := funext (fun u => funext (fun t => by unfold zXm; rw [ez]))
              refine kk3 _ _ _ _ _ ⟨b, rfl, rfl, rfl, rfl, fun p p1 => by rw [zp_n _ _ _ p1]; exact hf p p1, by rw [eX]; exact hs1, by rw [eX]; exact hs2, fun hb' => ⟨fun u hu => by rw [ez]; exact (hs3 hb').1 u hu, fun t' ht' r1 r2 r3 t ht => ?_⟩, by rw [eX]; exact hs4⟩
              by_cases e : t' = i
              · subst e
                have h1 := hall t (by have := ht; unfold zgr at this; simp only [Bool.and_eq_true, decide_eq_true_eq] at this; omega) (by rw [hG]; exact ht)
                rw [(hs3 hb').1 _ q] at h1; exact h1
              · exact (hs3 hb').2 t' (by omega) r1 r2 r3 t ht
            · -- something new
              rw [if_neg q3, f_X9_sends_135]
              simp (disch := omega) only [zg_in, zcl]
              have hnew : ∃ t, t < 32 ∧ zbit y t = true ∧ zbit (s 73 (zob c i)) t = false := by
                apply Classical.byContradiction
                intro hno
                apply q3
                apply zbit_ext
                intro t ht
                rw [zbit_and, zbit_not _ ht, zbit_0]
                cases e : zbit y t with
                | false => rfl
                | true =>
                  cases e2 : zbit (s 73 (zob c i)) t with
                  | true => rfl
                  | false => exact absurd ⟨t, ht, e, e2⟩ hno
              obtain ⟨t0, ht0, hy0, hz0⟩ := hnew
              have ht0n : t0 < n := by
                rw [hG] at hy0
                unfold zgr at hy0
                simp only [Bool.and_eq_true, decide_eq_true_eq] at hy0
                exact hy0.1
              have hup : zsub (zXm s) (zXm (zp s 73 (zob c i) (s 73 (zob c i) ||| y))) := by
                intro u hu t ht
                unfold zXm at *
                by_cases e : u = zob c i
                · subst e; rw [zp_e, zbit_or, ht]; rfl
                · rw [zp_o _ _ e]; exact ht
              rw [show bI b ||| (1 : Int32) = bI true from by cases b <;> decide, nI_1]
              refine kk3 _ _ _ _ _ ⟨true, rfl, rfl, rfl, rfl, fun p p1 => by rw [zp_n _ _ _ p1]; exact hf p p1, zsub_t hs1 hup, fun Y hY hcl => ?_, fun e => (by cases e), fun _ => ?_⟩
              · have hsY := hs2 Y hY hcl
                intro u hu t ht
                unfold zXm at ht
                by_cases e : u = zob c i
                · subst e
                  rw [zp_e, zbit_or] at ht
                  rcases (Bool.or_eq_true _ _).mp ht with r | r
                  · exact hsY _ hu t r
                  · rw [hG] at r
                    refine hcl _ hu t ?_
                    unfold zFb
                    refine (zany_iff _ _).mpr ⟨k, hk, ?_⟩
                    rw [Bool.and_eq_true]
                    refine ⟨(zany_iff _ _).mpr ⟨i, hi, ?_⟩, ?_⟩
                    · rw [decide_eq_true q, hsY k hk i hb, q2']; simp
                    · unfold zgr at r ⊢
                      simp only [Bool.and_eq_true] at r ⊢
                      exact ⟨r.1, hY k hk t r.2.1, r.2.2⟩
                · rw [zp_o _ _ e] at ht
                  exact hsY u hu t ht
              · have h1 := zct_lt (n := n) hup q ht0n (show zXm (zp s 73 (zob c i) (s 73 (zob c i) ||| y)) (zob c i) t0 = true by unfold zXm; rw [zp_e, zbit_or, hy0]; simp) hz0
                have h2 := zct_mono hs1 n
                omega
      · rw [if_pos (by rw [zk6, znI_le (by omega) (by omega)]; omega)]
        exact stay (fun e _ _ => absurd e q)
    · rintro s x y z w ⟨b, rfl, rfl, rfl, rfl, hf, hs1, hs2, hs3, hs4⟩ rec3
      rw [f_X9_sends_59, zG1, zC1, hf 66 (by decide), hm, if_pos (Int32.le_refl _), bI_g, zg_t]
      refine ⟨b, s, rfl, hf, hs1, hs2, fun hb => ⟨(hs3 hb).1, fun u hu t r1 r2 => ?_⟩, hs4⟩
      obtain ⟨t', ht', r⟩ := (zany_iff _ _).mp r1
      simp only [Bool.and_eq_true, decide_eq_true_eq, beq_iff_eq] at r
      have := (hs3 hb).2 t' ht' r.1.1 r.1.2.1 r.1.2.2 t r2
      rw [r.2] at this; exact this
theorem zgo_cong {c : zs} {n s : Nat} {X Y : zX} (h : ∀ t, X s t = Y s t) (u : Nat) : zgo c n X s u = zgo c n Y s u := by simp only [zgo, h]
theorem zgr_cong {c : zs} {n s : Nat} {X Y : zX} (h : ∀ t, X s t = Y s t) (t : Nat) : zgr c n X s t = zgr c n Y s t := by simp only [zgr, h]
theorem zBb_n {c : zs} {m : Nat → Int32} {n nx : Nat} (hB : RBx c m n) (hnx : nx ≤ 12) (h3 : m 3 = nI nx) (u t : Nat) (ht : zBb c n nx u t = true) : t < n := by
  obtain ⟨np, nx', hnp, hnx', -, ⟨-, x2⟩, hp, hx⟩ := hB
  obtain rfl : nx' = nx := by
    rw [h3] at x2
    rw [znI_inj (by omega) (by omega)] at x2; exact x2.symm
  unfold zBb at ht
  rcases (Bool.or_eq_true _ _).mp ht with q | q
  · rw [Bool.and_eq_true, decide_eq_true_eq] at q; exact q.1
  · obtain ⟨b, hb, q2⟩ := (zany_iff _ _).mp q
    rw [Bool.and_eq_true, beq_iff_eq] at q2
    have := (zr_N (hx b hb).2.1.2).2.1
    omega
theorem zXm_lt {s : zs} {u t : Nat} (h : zXm s u t = true) : t < 32 := by
  unfold zXm at h
  by_cases q : t < 32
  · exact q
  · rw [zbit_hi _ (by omega)] at h; cases h
def zQcm (c τ : zs) (n : Nat) (B : zX) (x : Option (Int32 × zs)) : Prop := ∃ s : zs, x = some (0, s) ∧ (∀ p, p ≠ 73 → s p = τ p) ∧ zis (s 73) (zRb c n B 168)
theorem m_comes (hn : n ≤ 28) (hm : τ 66 1 = nI n) (h : ∀ t, t < n → RTk c (τ 66) K t) (h0 : τ 66 0 = c 1 5) (hB : RBx c (τ 66) n) {nx : Nat} (hnx : nx ≤ 12) (h3 : τ 66 3 = nI nx) : zQcm c τ n (zBb c n nx) (f_X9_comes τ) := by
  obtain ⟨s0, g1, g2, g3⟩ := m_begins hn hm h hB hnx h3
  have hBn := zBb_n hB hnx h3
  generalize zBb c n nx = B at g3 hBn
  have hclo := zRb_clo (c := c) hn B
  rw [f_X9_comes, g1, zb_s, show (1 : Int32) = bI true from rfl]
  refine zli1 (Q := zQcm c τ n B) 169 (fun i s a => ∃ b : Bool, a = bI b ∧ (∀ p, p ≠ 73 → s p = τ p) ∧ zsub B (zXm s) ∧ zsub (zXm s) (zRb c n B 168) ∧ (b = true → i ≤ zct (zXm s) n) ∧ (b = false → zclo c n (zXm s))) ?_ ?_ 1000 (by omega) ⟨true, rfl, g2, fun u hu t e => ?_, fun u hu t e => ?_, fun _ => Nat.zero_le _, fun e => by cases e⟩
  · rintro i hi s a ⟨b, rfl, hf, hs1, hs2, hs3, hs4⟩ rec kk
    rw [f_X9_comes_6]
    cases b with
    | false =>
      rw [if_pos (show bI false = 0 from rfl)]
      exact ⟨s, rfl, hf, fun u hu t _ => zRb_eq hn hs1 hs2 (hs4 rfl) u hu t⟩
    | true =>
      rw [if_neg (show ¬ bI true = 0 by decide)]
      show zQcm c τ n B (zlp2 (f_X9_comes_14 rec) 1000 s (bI false) (nI 0))
      refine zli2 (Q := zQcm c τ n B) 6 (fun j w x y => ∃ b2 : Bool, x = bI b2 ∧ y = nI j ∧ (∀ p, p ≠ 73 → w p = τ p) ∧ zsub (zXm s) (zXm w) ∧ zsub (zXm w) (zRb c n B 168) ∧ (b2 = false → (∀ u, u < 6 → w 73 u = s 73 u) ∧ ∀ k, k < j → ∀ u, u < 6 → ∀ t, zgo c n (zXm s) k u = true → zgr c n (zXm s) k t = true → zXm s u t = true) ∧ (b2 = true → zct (zXm s) n < zct (zXm w) n)) ?_ ?_ 1000 (by omega) ⟨false, rfl, rfl, hf, zsub_r _, hs2, fun _ => ⟨fun _ _ => rfl, fun k hk => absurd hk (by omega)⟩, fun e => by cases e⟩
      · rintro j hj w x y ⟨b2, rfl, rfl, hf2, r1, r2, r3, r4⟩ rec2 kk2
        have e66 : w 66 = τ 66 := hf2 66 (by decide)
        obtain ⟨b3, w2, e1, e2, e3, e4, e5, e6⟩ := m_sends (τ := w) (c := c) (K := K) hn (by rw [e66]; exact hm) (by rw [e66]; exact h) (by rw [e66]; exact h0) hj
        rw [f_X9_comes_14, if_neg (by rw [zk6, znI_le (by omega) (by omega)]; omega), e1, zb_s, bI_or, nI_1]
        refine kk2 _ _ _ ⟨b2 || b3, rfl, rfl, fun p hp => by rw [e2 p hp]; exact hf2 p hp, zsub_t r1 e3, e4 _ r2 hclo, fun hb => ?_, fun hb => ?_⟩
        · rw [Bool.or_eq_false_iff] at hb
          obtain ⟨q1, q2⟩ := r3 hb.1
          obtain ⟨q3, q4⟩ := e5 hb.2
          have ew : ∀ u, u < 6 → ∀ t, zXm s u t = zXm w u t := fun u hu t => by unfold zXm; rw [q1 u hu]
          refine ⟨fun u hu => (q3 u hu).trans (q1 u hu), fun k hk u hu t z1 z2 => ?_⟩
          by_cases e : k = j
          · subst e
            rw [zgo_cong (ew k hj)] at z1
            rw [zgr_cong (ew k hj)] at z2
            rw [ew u hu t]
            exact q4 u hu t z1 z2
          · exact q2 k (by omega) u hu t z1 z2
        · rcases (Bool.or_eq_true _ _).mp hb with q | q
          · have := r4 q
            have := zct_mono e3 n
            omega
          · have := e6 q
            have := zct_mono r1 n
            omega
      · rintro w x y ⟨b2, rfl, rfl, hf2, r1, r2, r3, r4⟩ rec2
        rw [f_X9_comes_14, if_pos (by decide)]
        refine kk _ _ ⟨b2, rfl, hf2, zsub_t hs1 r1, r2, fun hb => ?_, fun hb => ?_⟩
        · have := r4 hb
          have := hs3 rfl
          omega
        · obtain ⟨q1, q2⟩ := r3 hb
          have hws : zsub (zXm w) (zXm s) := fun u hu t ht => by unfold zXm at *; rw [← q1 u hu]; exact ht
          refine zsub_t (zFb_mono hws) (zsub_t (fun u hu t ht => ?_) r1)
          unfold zFb at ht
          obtain ⟨k, hk, hp⟩ := (zany_iff _ _).mp ht
          rw [Bool.and_eq_true] at hp
          exact q2 k hk u hu t hp.1 hp.2
  · rintro s a ⟨b, rfl, hf, hs1, hs2, hs3, hs4⟩ rec
    rw [f_X9_comes_6]
    cases b with
    | false =>
      rw [if_pos (show bI false = 0 from rfl)]
      exact ⟨s, rfl, hf, fun u hu t _ => zRb_eq hn hs1 hs2 (hs4 rfl) u hu t⟩
    | true =>
      have := hs3 rfl
      have := zct_le (zXm s) n
      omega
  · unfold zXm
    rw [g3 u hu t (by have := hBn u t e; omega)]; exact e
  · have := zXm_lt e
    unfold zXm at e
    rw [g3 u hu t this] at e
    exact zRb_le c n B (j := 0) (Nat.zero_le _) u hu t e
/-- the round in which a token comes -/
def zQrd (c τ : zs) (n : Nat) (B : zX) (u t : Nat) (x : Option (Int32 × zs)) : Prop := ∃ s : zs, (∀ p, p ≠ 65 → p ≠ 73 → p ≠ 74 → s p = τ p) ∧ (∀ j, j ≠ 3 → s 65 j = τ 65 j) ∧ ((∃ k, zRb c n B k u t = true ∧ (∀ j, j < k → zRb c n B j u t = false) ∧ x = some (nI k, s) ∧ s 65 3 = 0) ∨ (zRb c n B 168 u t = false ∧ x = some (0, s) ∧ s 65 3 = 2))
theorem m_round (hn : n ≤ 28) (hm : τ 66 1 = nI n) (h : ∀ t, t < n → RTk c (τ 66) K t) (h0 : τ 66 0 = c 1 5) (hB : RBx c (τ 66) n) {nx : Nat} (hnx : nx ≤ 12) (h3 : τ 66 3 = nI nx) {u t : Nat} (hu : u < 6) (ht : t < n) : zQrd c τ n (zBb c n nx) u t (f_X9_round_21 τ (nI u) (nI t) 0) := by
  have E : ∀ p, p ≠ 65 → (zp τ 65 3 0) p = τ p := fun p hp => zp_n _ _ _ hp
  obtain ⟨s0, g1, g2, g3⟩ := m_begins (τ := zp τ 65 3 0) (c := c) (K := K) hn (by rw [E 66 (by decide)]; exact hm) (by rw [E 66 (by decide)]; exact h) (by rw [E 66 (by decide)]; exact hB) hnx (by rw [E 66 (by decide)]; exact h3)
  have hBn := zBb_n hB hnx h3
  generalize zBb c n nx = B at g3 hBn
  have hRn := zRb_n (c := c) (n := n) hBn
  rw [f_X9_round_21, zp_e, if_pos rfl, g1, zb_s]
  -- the end, where nothing more comes
  have stop : ∀ (k' : Nat) (s : zs), (∀ p, p ≠ 73 → p ≠ 74 → s p = (zp τ 65 3 0) p) → zis (s 73) (zRb c n B (k' + 1)) → (∀ j, j < k' + 1 → zRb c n B j u t = false) → zclo c n (zRb c n B k') → zQrd c τ n B u t (f_X9_round_72 s (nI u) (nI t) (nI (k' + 1))) := by
    intro k' s hf hi hno hcl
    have hk1 : zRb c n B (k' + 1) u t = false := by
      cases e : zRb c n B (k' + 1) u t with
      | false => rfl
      | true =>
        have := zRb_in (zRb_le c n B (j := 0) (Nat.zero_le k')) hcl (k' + 1) u hu t e
        rw [hno k' (by omega)] at this; cases this
    have hfx : zRb c n B 168 u t = false := by rw [← zRb_fix hn hcl u hu t]; exact hno k' (by omega)
    rw [f_X9_round_72, zg_in _ (by omega) (by omega), zcl (by omega), p_has _ _ (show t < 32 by omega), zb_s, hi u hu t (by omega), hk1, if_pos (show bI false = 0 from rfl), f_X9_round_91, zp_e, if_neg (by decide)]
    exact ⟨_, fun p p1 p2 p3 => by rw [zp_n _ _ _ p1, hf p p2 p3, E p p1], fun j hj => by rw [zp_o _ _ hj, hf 65 (by decide) (by decide), zp_o _ _ hj], Or.inr ⟨hfx, rfl, zp_e _ _ _ _⟩⟩
  show zQrd c τ n B u t (zlp4 f_X9_round_42 1000 s0 (nI u) (nI t) (nI 0) (bI true))
  refine zli4 (Q := zQrd c τ n B u t) 169 (fun k s a b d e => ∃ mo : Bool, a = nI u ∧ b = nI t ∧ d = nI k ∧ e = bI mo ∧ (∀ p, p ≠ 73 → p ≠ 74 → s p = (zp τ 65 3 0) p) ∧ zis (s 73) (zRb c n B k) ∧ (∀ j, j < k → zRb c n B j u t = false) ∧ (mo = false → ∃ k', k = k' + 1 ∧ zclo c n (zRb c n B k')) ∧ (mo = true → ∀ j, j < k → ¬ zclo c n (zRb c n B j))) ?_ ?_ 1000 (by omega) ⟨true, rfl, rfl, rfl, rfl, fun p p1 _ => g2 p p1, g3, fun j hj => absurd hj (by omega), fun e => (by cases e), fun _ j hj => absurd hj (by omega)⟩
  · rintro k hk s a b d e ⟨mo, rfl, rfl, rfl, rfl, hf, hi, hno, hq1, hq2⟩ rec kk
    rw [f_X9_round_42]
    cases mo with
    | false =>
      obtain ⟨k', rfl, hcl⟩ := hq1 rfl
      rw [if_pos (show bI false = 0 from rfl)]
      exact stop k' s hf hi hno hcl
    | true =>
      rw [if_neg (show ¬ bI true = 0 by decide), zg_in _ (by omega) (by omega), zcl (by omega), p_has _ _ (show t < 32 by omega), zb_s, hi u hu t (by omega), bI_0]
      cases hr : zRb c n B k u t with
      | true =>
        rw [if_pos rfl, f_X9_round_72, zg_in _ (by omega) (by omega), zcl (by omega), p_has _ _ (show t < 32 by omega), zb_s, hi u hu t (by omega), hr, if_neg (show ¬ bI true = 0 by decide), f_X9_round_91, zp_e, if_pos rfl]
        exact ⟨_, fun p p1 p2 p3 => by rw [zp_n _ _ _ p1, hf p p2 p3, E p p1], fun j hj => by rw [zp_o _ _ hj, hf 65 (by decide) (by decide), zp_o _ _ hj], Or.inl ⟨k, hr, hno, rfl, zp_e _ _ _ _⟩⟩
      | false =>
        have e66 : s 66 = τ 66 := by rw [hf 66 (by decide) (by decide), E 66 (by decide)]
        obtain ⟨mb, s2, w1, w2, w3, w4⟩ := m_goesRound (τ := s) (c := c) (K := K) hn (by rw [e66]; exact hm) (by rw [e66]; exact h) (by rw [e66]; exact h0)
        rw [if_neg (by decide), w1, zb_s, nI_1]
        have hbits : ∀ v, v < 6 → ∀ x, x < 32 → zbit (zal c n (zXm s) (s 73) 6 v) x = zRb c n B (k + 1) v x := by
          intro v hv x hx
          rw [zal_bit hn, hi v hv x hx, zFb_cong (X := zXm s) hn (Y := zRb c n B k) (fun a ha b hb => hi a ha b hb)]; rfl
        refine kk _ _ _ _ _ ⟨mb, rfl, rfl, rfl, rfl, fun p p1 p2 => by rw [w2 p p1 p2]; exact hf p p1 p2, fun v hv x hx => by rw [w3 v hv]; exact hbits v hv x hx, fun j hj => ?_, fun hb => ⟨k, rfl, ?_⟩, fun hb j hj hc => ?_⟩
        · by_cases e : j = k
          · subst e; exact hr
          · exact hno j (by omega)
        · rw [hb] at w4
          have hall := zany_no.mp w4.symm
          intro v hv x hx
          have hxn := zFb_n hx
          have e1 := hall v hv
          have e2 : zal c n (zXm s) (s 73) 6 v = s 73 v := by simpa using e1
          rw [← hi v hv x (by omega), ← e2, hbits v hv x (by omega)]
          show (zRb c n B k v x || zFb c n (zRb c n B k) v x) = true
          rw [hx]; simp
        · by_cases e : j = k
          · subst e
            rw [hb] at w4
            obtain ⟨v, hv, hne⟩ := (zany_iff _ _).mp w4.symm
            have hne' : zal c n (zXm s) (s 73) 6 v ≠ s 73 v := by simpa using hne
            apply hne'
            apply zbit_ext
            intro x hx
            rw [hbits v hv x hx, hi v hv x hx]
            show (zRb c n B j v x || zFb c n (zRb c n B j) v x) = zRb c n B j v x
            cases q : zFb c n (zRb c n B j) v x with
            | false => simp
            | true => rw [hc v hv x q]; rfl
          · exact hq2 rfl j (by omega) hc
  · rintro s a b d e ⟨mo, rfl, rfl, rfl, rfl, hf, hi, hno, hq1, hq2⟩ rec
    rw [f_X9_round_42]
    cases mo with
    | false =>
      obtain ⟨k', hk', hcl⟩ := hq1 rfl
      obtain rfl : k' = 168 := by omega
      rw [if_pos (show bI false = 0 from rfl)]
      exact stop 168 s hf hi hno hcl
    | true => exact absurd (zRb_clo hn B) (hq2 rfl 168 (by omega))
end PY
