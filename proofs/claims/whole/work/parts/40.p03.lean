/-! what the class's own methods answer -/
def zed (c : zs) (t : Nat) : Bool := zany (fun k => c 8 (zch c t k) != -1) (zln c t)
def zbl (c : zs) (a b : Nat) : Bool := decide (zln c b ≤ zln c a) && (zch c a (zln c b - 1) == b)
def zpa (c : zs) (t : Nat) : Int32 := if zln c t ≤ 1 then -1 else nI (zch c t (zln c t - 2))
theorem zl2_any {o : Type} {f : (zs → Int32 → Int32 → Option o) → zs → Int32 → Int32 → Option o} {σ : zs} {a : Int32} {N : Nat} (p : Nat → Bool) {x y : Option o}
    (hs : ∀ i, i < N → ∀ rec, f rec σ a (nI i) = if p i then x else rec σ a (nI (i + 1))) (he : ∀ rec, f rec σ a (nI N) = y) (hN : N < 1000) : zlp2 f 1000 σ a (nI 0) = if zany p N then x else y := by
  rcases zfirst p N with ⟨k, hk, hp, hq⟩ | hq
  · rw [if_pos ((zany_iff _ _).mpr ⟨k, hk, hp⟩)]
    refine zlr2 k (fun _ => σ) (fun _ => a) nI (fun i hi rec => ?_) (fun rec => ?_) 1000 (by omega)
    · rw [hs i (by omega), if_neg (by rw [hq i hi]; decide)]
    · rw [hs k hk, if_pos hp]
  · rw [if_neg (by rw [zany_no.mpr hq]; decide)]
    refine zlr2 N (fun _ => σ) (fun _ => a) nI (fun i hi rec => ?_) (fun rec => he rec) 1000 (by omega)
    rw [hs i hi, if_neg (by rw [hq i hi]; decide)]
theorem zl3_any {o : Type} {f : (zs → Int32 → Int32 → Int32 → Option o) → zs → Int32 → Int32 → Int32 → Option o} {σ : zs} {a b : Int32} {N : Nat} (p : Nat → Bool) {x y : Option o}
    (hs : ∀ i, i < N → ∀ rec, f rec σ a b (nI i) = if p i then x else rec σ a b (nI (i + 1))) (he : ∀ rec, f rec σ a b (nI N) = y) (hN : N < 1000) : zlp3 f 1000 σ a b (nI 0) = if zany p N then x else y := by
  rcases zfirst p N with ⟨k, hk, hp, hq⟩ | hq
  · rw [if_pos ((zany_iff _ _).mpr ⟨k, hk, hp⟩)]
    refine zlr3 k (fun _ => σ) (fun _ => a) (fun _ => b) nI (fun i hi rec => ?_) (fun rec => ?_) 1000 (by omega)
    · rw [hs i (by omega), if_neg (by rw [hq i hi]; decide)]
    · rw [hs k hk, if_pos hp]
  · rw [if_neg (by rw [zany_no.mpr hq]; decide)]
    refine zlr3 N (fun _ => σ) (fun _ => a) (fun _ => b) nI (fun i hi rec => ?_) (fun rec => he rec) 1000 (by omega)
    rw [hs i hi, if_neg (by rw [hq i hi]; decide)]
def zfold {α : Type} (g : α → Nat → α) (v : α) : Nat → α
  | 0 => v
  | i + 1 => g (zfold g v i) i
theorem zl3_fold {o : Type} {f : (zs → Int32 → Int32 → Int32 → Option o) → zs → Int32 → Int32 → Int32 → Option o} {σ : zs} {a v : Int32} {N : Nat} (g : Int32 → Nat → Int32) {out : Int32 → Option o}
    (hs : ∀ i, i < N → ∀ rec v, f rec σ a v (nI i) = rec σ a (g v i) (nI (i + 1))) (he : ∀ rec v, f rec σ a v (nI N) = out v) (hN : N < 1000) : zlp3 f 1000 σ a v (nI 0) = out (zfold g v N) :=
  zlr3 N (fun _ => σ) (fun _ => a) (zfold g v) nI (fun i hi rec => hs i hi rec _) (fun rec => he rec _) 1000 (by omega)
theorem zl2_fold {o : Type} {f : (zs → Int32 → Int32 → Option o) → zs → Int32 → Int32 → Option o} {σ : zs} {v : Int32} {N : Nat} (g : Int32 → Nat → Int32) {out : Int32 → Option o}
    (hs : ∀ i, i < N → ∀ rec v, f rec σ v (nI i) = rec σ (g v i) (nI (i + 1))) (he : ∀ rec v, f rec σ v (nI N) = out v) (hN : N < 1000) : zlp2 f 1000 σ v (nI 0) = out (zfold g v N) :=
  zlr2 N (fun _ => σ) (zfold g v) nI (fun i hi rec => hs i hi rec _) (fun rec => he rec _) 1000 (by omega)
theorem zset_fold (p : Nat → Bool) : ∀ n, zfold (fun v i => if p i then v ||| (1 <<< (nI i &&& 31)) else v) 0 n = zset p n
  | 0 => rfl
  | n + 1 => by simp only [zfold, zset, zset_fold p n]
theorem zcnt_fold (p : Nat → Bool) : ∀ n, zfold (fun v i => if p i then v + 1 else v) 0 n = nI (zcnt p n)
  | 0 => rfl
  | n + 1 => by
    simp only [zfold, zcnt, zcnt_fold p n]
    split
    · exact nI_1 _
    · rfl
section PC
variable {σ : zs} {m : Nat → Int32} {K n : Nat}
theorem p_X7_isEnded (hn : n ≤ 28) (h : ∀ t, t < n → RTk σ m K t) {t : Nat} (ht : t < n) : f_X7_isEnded σ (nI t) = some (bI (zed σ t), σ) := by
  obtain ⟨hl, hl1, hl7⟩ := zln_eq (h t ht)
  have e : zlp2 f_X7_isEnded_2 1000 σ (nI t) (nI 0) = if zed σ t then some (1, σ) else some (0, σ) := by
    refine zl2_any (fun k => σ 8 (zch σ t k) != -1) (fun i hi rec => ?_) (fun rec => ?_) (by omega)
    · obtain ⟨e1, e2⟩ := zch_lt (h t ht) hi
      rw [f_X7_isEnded_2]
      simp (disch := omega) only [zk7, nI_mul, nI_add, nI_1, zcl, zg_in, hl, znI_le, e1]
      rw [if_neg (by omega)]
      by_cases q : σ 8 (zch σ t i) = -1
      · rw [if_pos q, if_neg (by simp [q])]
      · rw [if_neg q, if_pos (by simp [q])]
    · rw [f_X7_isEnded_2]
      simp (disch := omega) only [zcl, zg_in, hl, znI_le]
      rw [if_pos (Nat.le_refl _)]
  rw [f_X7_isEnded]
  refine Eq.trans e ?_
  cases zed σ t <;> rfl
theorem p_X7_isBelow (hn : n ≤ 28) (h : ∀ t, t < n → RTk σ m K t) {a b : Nat} (ha : a < n) (hb : b < n) : f_X7_isBelow σ (nI a) (nI b) = some (bI (zbl σ a b), σ) := by
  obtain ⟨hla, hla1, hla7⟩ := zln_eq (h a ha)
  obtain ⟨hlb, hlb1, hlb7⟩ := zln_eq (h b hb)
  rw [f_X7_isBelow]
  simp (disch := omega) only [zcl, zg_in, hla, hlb, znI_lt]
  unfold zbl
  by_cases q : zln σ a < zln σ b
  · rw [if_pos q, decide_eq_false (by omega)]; rfl
  · rw [if_neg q, decide_eq_true (by omega)]
    obtain ⟨e1, e2⟩ := zch_lt (h a ha) (show zln σ b - 1 < zln σ a by omega)
    have e3 : nI a * 7 + nI (zln σ b) - 1 = nI (a * 7 + (zln σ b - 1)) := by
      rw [zk7, nI_mul, nI_add, show a * 7 + zln σ b = (a * 7 + (zln σ b - 1)) + 1 by omega]
      exact nI_pred _
    simp (disch := omega) only [e3, zcl, zg_in, e1, znI_inj]
    by_cases w : zch σ a (zln σ b - 1) = b
    · rw [if_pos w, beq_iff_eq.mpr w]; rfl
    · rw [if_neg w, beq_eq_false_iff_ne.mpr w]; rfl
end PC
