/-! bits -/
theorem zushr (x : Int32) {k : Nat} (hk : k < 32) : zbit ((x.toUInt32 >>> ((nI k).toUInt32 &&& Int32.toUInt32 31)).toInt32) 0 = zbit x k := by
  have e : ∀ k, k < 32 → (((nI k).toUInt32 &&& Int32.toUInt32 31).toBitVec % 32).toNat = k := by decide +kernel
  have h := pk_ushr x (nI k) k (e k hk)
  unfold zbit
  rw [← BitVec.testBit_toNat, h, Nat.testBit_div_two_pow, ← BitVec.testBit_toNat]
  simp
theorem p_hasBit (σ : zs) (x : Int32) {k : Nat} (hk : k < 32) : f_X8_hasBit σ x (nI k) = some (bI (zbit x k), σ) := by
  unfold f_X8_hasBit
  have h := zand1 ((x.toUInt32 >>> ((nI k).toUInt32 &&& Int32.toUInt32 31)).toInt32)
  rw [zushr x hk] at h
  cases hb : zbit x k with
  | false =>
    rw [hb] at h
    rw [if_pos (by rw [h])]; rfl
  | true =>
    rw [hb] at h
    rw [if_neg (by rw [h]; decide)]; rfl
theorem zbit_and (x y : Int32) (k : Nat) : zbit (x &&& y) k = (zbit x k && zbit y k) := by simp [zbit]
theorem zbit_or (x y : Int32) (k : Nat) : zbit (x ||| y) k = (zbit x k || zbit y k) := by simp [zbit]
theorem zbit_0 (k : Nat) : zbit 0 k = false := by simp [zbit]
theorem zbit_not (x : Int32) {k : Nat} (hk : k < 32) : zbit (x ^^^ (-1 : Int32)) k = !zbit x k := by
  have e : (-1 : Int32).toBitVec = BitVec.allOnes 32 := by decide
  simp [zbit, e, hk]
theorem zbit_1s {i k : Nat} (hi : i < 32) (hk : k < 32) : zbit (1 <<< (nI i &&& 31)) k = decide (k = i) := by
  have e : ∀ i, i < 32 → ∀ k, k < 32 → zbit (1 <<< (nI i &&& 31)) k = decide (k = i) := by decide +kernel
  exact e i hi k hk
theorem zbit_hi (x : Int32) {k : Nat} (hk : 32 ≤ k) : zbit x k = false := BitVec.getLsbD_of_ge _ _ hk
theorem zbit_ext {x y : Int32} (h : ∀ k, k < 32 → zbit x k = zbit y k) : x = y := by
  rw [← Int32.toBitVec_inj]
  exact BitVec.eq_of_getLsbD_eq h
theorem zbit_set (p : Nat → Bool) : ∀ {n : Nat}, n ≤ 32 → ∀ {k : Nat}, zbit (zset p n) k = (decide (k < n) && p k)
  | 0, _, k => by simp [zset, zbit_0]
  | n + 1, hn, k => by
    have ih := zbit_set p (n := n) (by omega) (k := k)
    by_cases hk : k < 32
    · rw [zset]
      by_cases e : k = n
      · subst e
        cases hp : p k with
        | false =>
          rw [if_neg (by decide), ih]; simp [hp]
        | true =>
          rw [if_pos rfl, zbit_or, ih, zbit_1s (by omega) hk]; simp
      · have e2 : decide (k < n + 1) = decide (k < n) := by
          by_cases q : k < n
          · rw [decide_eq_true q, decide_eq_true (by omega)]
          · rw [decide_eq_false q, decide_eq_false (by omega)]
        cases hp : p n with
        | false => rw [if_neg (by decide), ih, e2]
        | true => rw [if_pos rfl, zbit_or, ih, zbit_1s (by omega) hk, decide_eq_false e, e2]; simp
    · rw [zbit_hi _ (by omega), decide_eq_false (by omega)]; rfl
theorem zset_eq {x : Int32} {p : Nat → Bool} {n : Nat} (hn : n ≤ 32) (h : ∀ k, k < 32 → zbit x k = (decide (k < n) && p k)) : x = zset p n :=
  zbit_ext (fun k hk => by rw [h k hk, zbit_set p hn])
/-- a number below 2 ^ n has its bits there -/
theorem zbit_nI (v k : Nat) : zbit (nI v) k = (decide (k < 32) && v.testBit k) := by
  show (BitVec.ofNat 32 v).getLsbD k = _
  rw [BitVec.getLsbD_ofNat]
theorem zor0 (x : Int32) : x ||| 0 = x := by
  apply zbit_ext; intro k _; rw [zbit_or, zbit_0]; simp
theorem znI_le1 {a : Nat} (h : a < 2147483648) : (nI a ≤ 1) = (a ≤ 1) := znI_le h (by decide)
/-! the class's helpers that change nothing, going on -/
section PD
variable {σ : zs} {m : Nat → Int32} {K n : Nat}
theorem p_X7_setBelow (hn : n ≤ 28) (hc : σ 2 0 = nI n) (h : ∀ t, t < n → RTk σ m K t) {b : Nat} (hb : b < n) : f_X7_setBelow σ (nI b) = some (zset (fun t => zbl σ t b) n, σ) := by
  rw [f_X7_setBelow, zi0]
  refine Eq.trans (zl3_fold (N := n) (fun v i => if zbl σ i b then v ||| (1 <<< (nI i &&& 31)) else v) (out := fun v => some (v, σ)) (fun i hi rec v => ?_) (fun rec v => ?_) (by omega)) (by rw [show nI 0 = 0 from rfl, zset_fold])
  · rw [f_X7_setBelow_4]
    simp (disch := omega) only [hc, znI_le]
    rw [if_neg (by omega), p_X7_isBelow hn h hi hb, zb_s, bI_0]
    cases zbl σ i b <;> simp only [nI_1] <;> rfl
  · rw [f_X7_setBelow_4]
    simp (disch := omega) only [hc, znI_le]
    rw [if_pos (Nat.le_refl _)]
theorem p_X7_setHeldBy (hn : n ≤ 28) (hc : σ 2 0 = nI n) {s : Nat} (hs : s < 6) : f_X7_setHeldBy σ (nI s) = some (zset (fun t => zbit (σ 6 t) s) n, σ) := by
  rw [f_X7_setHeldBy, zi0]
  refine Eq.trans (zl3_fold (N := n) (fun v i => if zbit (σ 6 i) s then v ||| (1 <<< (nI i &&& 31)) else v) (out := fun v => some (v, σ)) (fun i hi rec v => ?_) (fun rec v => ?_) (by omega)) (by rw [show nI 0 = 0 from rfl, zset_fold])
  · rw [f_X7_setHeldBy_4]
    simp (disch := omega) only [hc, znI_le, zg_in, zcl]
    rw [if_neg (by omega), p_hasBit σ _ (show s < 32 by omega), zb_s, bI_0]
    cases zbit (σ 6 i) s <;> simp only [nI_1] <;> rfl
  · rw [f_X7_setHeldBy_4]
    simp (disch := omega) only [hc, znI_le]
    rw [if_pos (Nat.le_refl _)]
theorem p_X7_setOfLiving (hn : n ≤ 28) (hc : σ 2 0 = nI n) (h : ∀ t, t < n → RTk σ m K t) : f_X7_setOfLiving σ = some (zset (fun t => !zed σ t) n, σ) := by
  rw [f_X7_setOfLiving, zi0]
  refine Eq.trans (zl2_fold (N := n) (fun v i => if !zed σ i then v ||| (1 <<< (nI i &&& 31)) else v) (out := fun v => some (v, σ)) (fun i hi rec v => ?_) (fun rec v => ?_) (by omega)) (by rw [show nI 0 = 0 from rfl, zset_fold])
  · rw [f_X7_setOfLiving_4]
    simp (disch := omega) only [hc, znI_le]
    rw [if_neg (by omega), p_X7_isEnded hn h hi, zb_s, bI_0]
    cases zed σ i <;> simp only [nI_1] <;> rfl
  · rw [f_X7_setOfLiving_4]
    simp (disch := omega) only [hc, znI_le]
    rw [if_pos (Nat.le_refl _)]
def zhc (c : zs) (s t : Nat) : Bool := zany (fun k => zbit (c 6 (zch c t k)) s) (zln c t)
theorem p_X7_holdsOfChain (hn : n ≤ 28) (h : ∀ t, t < n → RTk σ m K t) {s t : Nat} (hs : s < 6) (ht : t < n) : f_X7_holdsOfChain σ (nI s) (nI t) = some (bI (zhc σ s t), σ) := by
  obtain ⟨hl, hl1, hl7⟩ := zln_eq (h t ht)
  have e : zlp3 f_X7_holdsOfChain_2 1000 σ (nI s) (nI t) (nI 0) = if zhc σ s t then some (1, σ) else some (0, σ) := by
    refine zl3_any (fun k => zbit (σ 6 (zch σ t k)) s) (fun i hi rec => ?_) (fun rec => ?_) (by omega)
    · obtain ⟨e1, e2⟩ := zch_lt (h t ht) hi
      rw [f_X7_holdsOfChain_2]
      simp (disch := omega) only [zk7, nI_mul, nI_add, nI_1, zcl, zg_in, hl, znI_le, e1]
      rw [if_neg (by omega), p_hasBit σ _ (show s < 32 by omega), zb_s, bI_0]
    · rw [f_X7_holdsOfChain_2]
      simp (disch := omega) only [zcl, zg_in, hl, znI_le]
      rw [if_pos (Nat.le_refl _)]
  rw [f_X7_holdsOfChain]
  refine Eq.trans e ?_
  cases zhc σ s t <;> rfl
theorem p_X7_parentOf (hn : n ≤ 28) (h : ∀ t, t < n → RTk σ m K t) {t : Nat} (ht : t < n) : f_X7_parentOf σ (nI t) = some (zpa σ t, σ) := by
  obtain ⟨hl, hl1, hl7⟩ := zln_eq (h t ht)
  rw [f_X7_parentOf]
  simp (disch := omega) only [zcl, zg_in, hl]
  simp (disch := omega) only [znI_le1]
  unfold zpa
  by_cases q : zln σ t ≤ 1
  · rw [if_pos q, if_pos q]
  · rw [if_neg q, if_neg q]
    obtain ⟨e1, e2⟩ := zch_lt (h t ht) (show zln σ t - 2 < zln σ t by omega)
    have e3 : nI t * 7 + nI (zln σ t) - 2 = nI (t * 7 + (zln σ t - 2)) := by
      rw [zk7, nI_mul, nI_add, zk2, nI_sub (by omega)]
      congr 1; omega
    simp (disch := omega) only [e3, zcl, zg_in, e1]
theorem p_X7_derivedFrom (hn : n ≤ 28) (hc : σ 2 0 = nI n) (h : ∀ t, t < n → RTk σ m K t) (a : Int32) : f_X7_derivedFrom σ a = some (nI (zcnt (fun t => decide (zpa σ t = a)) n), σ) := by
  rw [f_X7_derivedFrom, zi0]
  refine Eq.trans (zl3_fold (N := n) (fun v i => if decide (zpa σ i = a) then v + 1 else v) (out := fun v => some (v, σ)) (fun i hi rec v => ?_) (fun rec v => ?_) (by omega)) (by rw [show nI 0 = 0 from rfl, zcnt_fold])
  · rw [f_X7_derivedFrom_4]
    simp (disch := omega) only [hc, znI_le]
    rw [if_neg (by omega), p_X7_parentOf hn h hi, zb_s]
    by_cases q : zpa σ i = a
    · rw [if_pos q, decide_eq_true q, if_pos rfl, nI_1]
    · rw [if_neg q, decide_eq_false q, if_neg (by decide), nI_1]
  · rw [f_X7_derivedFrom_4]
    simp (disch := omega) only [hc, znI_le]
    rw [if_pos (Nat.le_refl _)]
theorem p_X7_numberFor (hn : n ≤ 28) (hc : σ 2 0 = nI n) (a : Int32) : f_X7_numberFor σ a = some (nI (zcnt (fun t => decide (σ 3 t = a)) n), σ) := by
  rw [f_X7_numberFor, zi0]
  refine Eq.trans (zl3_fold (N := n) (fun v i => if decide (σ 3 i = a) then v + 1 else v) (out := fun v => some (v, σ)) (fun i hi rec v => ?_) (fun rec v => ?_) (by omega)) (by rw [show nI 0 = 0 from rfl, zcnt_fold])
  · rw [f_X7_numberFor_4]
    simp (disch := omega) only [hc, znI_le, zg_in, zcl]
    rw [if_neg (by omega)]
    by_cases q : σ 3 i = a
    · rw [if_pos q, decide_eq_true q, if_pos rfl, nI_1]
    · rw [if_neg q, decide_eq_false q, if_neg (by decide), nI_1]
  · rw [f_X7_numberFor_4]
    simp (disch := omega) only [hc, znI_le]
    rw [if_pos (Nat.le_refl _)]
/-- one token comes before another -/
def zcb (c : zs) (a b : Nat) : Bool := if c 3 a = c 3 b then (if zln c a = zln c b then decide (a < b) else decide (zln c b < zln c a)) else decide (c 3 a < c 3 b)
theorem zle_nlt {a b : Int32} : (a ≤ b) ↔ ¬ b < a := by
  rw [Int32.le_iff_toInt_le, Int32.lt_iff_toInt_lt]; omega
theorem p_X7_comesBefore (hn : n ≤ 28) (h : ∀ t, t < n → RTk σ m K t) {a b : Nat} (ha : a < n) (hb : b < n) : f_X7_comesBefore σ (nI a) (nI b) = some (bI (zcb σ a b), σ) := by
  obtain ⟨hla, hla1, hla7⟩ := zln_eq (h a ha)
  obtain ⟨hlb, hlb1, hlb7⟩ := zln_eq (h b hb)
  rw [f_X7_comesBefore]
  simp (disch := omega) only [zcl, zg_in, hla, hlb, znI_le, znI_inj]
  unfold zcb
  by_cases q : σ 3 a = σ 3 b
  · rw [if_pos q, if_pos q]
    by_cases w : zln σ a = zln σ b
    · rw [if_pos w, if_pos w]
      by_cases u : b ≤ a
      · rw [if_pos u, decide_eq_false (by omega)]; rfl
      · rw [if_neg u, decide_eq_true (by omega)]; rfl
    · rw [if_neg w, if_neg w]
      by_cases u : zln σ a ≤ zln σ b
      · rw [if_pos u, decide_eq_false (by omega)]; rfl
      · rw [if_neg u, decide_eq_true (by omega)]; rfl
  · rw [if_neg q, if_neg q]
    by_cases u : σ 3 a < σ 3 b
    · rw [if_neg (fun z => zle_nlt.mp z u), decide_eq_true u]; rfl
    · rw [if_pos (zle_nlt.mpr u), decide_eq_false u]; rfl
theorem p_X7_numberBefore (hn : n ≤ 28) (hc : σ 2 0 = nI n) (h : ∀ t, t < n → RTk σ m K t) {a : Nat} (ha : a < n) : f_X7_numberBefore σ (nI a) = some (nI (zcnt (fun t => zcb σ t a) n), σ) := by
  rw [f_X7_numberBefore, zi0]
  refine Eq.trans (zl3_fold (N := n) (fun v i => if zcb σ i a then v + 1 else v) (out := fun v => some (v, σ)) (fun i hi rec v => ?_) (fun rec v => ?_) (by omega)) (by rw [show nI 0 = 0 from rfl, zcnt_fold])
  · rw [f_X7_numberBefore_4]
    simp (disch := omega) only [hc, znI_le]
    rw [if_neg (by omega), p_X7_comesBefore hn h hi ha, zb_s, bI_0]
    cases zcb σ i a <;> simp only [nI_1] <;> rfl
  · rw [f_X7_numberBefore_4]
    simp (disch := omega) only [hc, znI_le]
    rw [if_pos (Nat.le_refl _)]
theorem p_X7_withRank (hn : n ≤ 28) (hc : σ 2 0 = nI n) (h : ∀ t, t < n → RTk σ m K t) (a : Int32) :
    (∃ k, k < n ∧ nI (zcnt (fun t => zcb σ t k) n) = a ∧ (∀ j, j < k → nI (zcnt (fun t => zcb σ t j) n) ≠ a) ∧ f_X7_withRank σ a = some (nI k, σ)) ∨ ((∀ j, j < n → nI (zcnt (fun t => zcb σ t j) n) ≠ a) ∧ f_X7_withRank σ a = some (-1, σ)) := by
  have step : ∀ i, i < n → ∀ rec, f_X7_withRank_2 rec σ a (nI i) = if nI (zcnt (fun t => zcb σ t i) n) = a then some (nI i, σ) else rec σ a (nI (i + 1)) := by
    intro i hi rec
    rw [f_X7_withRank_2]
    simp (disch := omega) only [hc, znI_le]
    rw [if_neg (by omega), p_X7_numberBefore hn hc h hi, zb_s, nI_1]
  have fin : ∀ rec, f_X7_withRank_2 rec σ a (nI n) = some (-1, σ) := by
    intro rec
    rw [f_X7_withRank_2]
    simp (disch := omega) only [hc, znI_le]
    rw [if_pos (Nat.le_refl _)]
  rcases zfirst (fun k => decide (nI (zcnt (fun t => zcb σ t k) n) = a)) n with ⟨k, hk, hp, hq⟩ | hq
  · refine Or.inl ⟨k, hk, of_decide_eq_true hp, fun j hj => of_decide_eq_false (hq j hj), ?_⟩
    rw [f_X7_withRank, zi0]
    refine zlr2 k (fun _ => σ) (fun _ => a) nI (fun i hi rec => ?_) (fun rec => ?_) 1000 (by omega)
    · rw [step i (by omega), if_neg (of_decide_eq_false (hq i hi))]
    · rw [step k hk, if_pos (of_decide_eq_true hp)]
  · refine Or.inr ⟨fun j hj => of_decide_eq_false (hq j hj), ?_⟩
    rw [f_X7_withRank, zi0]
    refine zlr2 n (fun _ => σ) (fun _ => a) nI (fun i hi rec => ?_) (fun rec => fin rec) 1000 (by omega)
    rw [step i hi, if_neg (of_decide_eq_false (hq i hi))]
end PD
