/-! folds: their order -/
theorem zfold_front {α : Type} (G : α → Nat → α) (v : α) : ∀ N, zfold G v (N + 1) = zfold (fun v k => G v (k + 1)) (G v 0) N
  | 0 => rfl
  | N + 1 => by
    have ih := zfold_front G v N
    show G (zfold G v (N + 1)) (N + 1) = _
    rw [ih]; rfl
theorem zfold_cong {α : Type} {G H : α → Nat → α} {v : α} : ∀ {N : Nat}, (∀ k, k < N → ∀ v, G v k = H v k) → zfold G v N = zfold H v N
  | 0, _ => rfl
  | N + 1, h => by
    have ih := zfold_cong (G := G) (H := H) (v := v) (N := N) (fun k hk => h k (Nat.lt_succ_of_lt hk))
    show G (zfold G v N) N = H (zfold H v N) N
    rw [ih, h N (Nat.lt_succ_self N)]
theorem zfold_P {α : Type} {G : α → Nat → α} {P : α → Prop} {v : α} (h0 : P v) : ∀ {N : Nat}, (∀ k, k < N → ∀ v, P v → P (G v k)) → P (zfold G v N)
  | 0, _ => h0
  | N + 1, h => h N (Nat.lt_succ_self N) _ (zfold_P (G := G) h0 (N := N) (fun k hk => h k (Nat.lt_succ_of_lt hk)))
theorem zfold_R {α β : Type} {G : α → Nat → α} {H : β → Nat → β} {R : α → β → Prop} {v : α} {w : β} (h0 : R v w) : ∀ {N : Nat}, (∀ k, k < N → ∀ v w, R v w → R (G v k) (H w k)) → R (zfold G v N) (zfold H w N)
  | 0, _ => h0
  | N + 1, h => h N (Nat.lt_succ_self N) _ _ (zfold_R (G := G) (H := H) h0 (N := N) (fun k hk => h k (Nat.lt_succ_of_lt hk)))
/-- a step that commutes with each step of a fold commutes with the fold -/
theorem zfold_pull {α : Type} {G : α → Nat → α} {P : α → Prop} {g : α → α} : ∀ {N : Nat}, (∀ k, k < N → ∀ v, P v → P (G v k)) → (∀ k, k < N → ∀ v, P v → g (G v k) = G (g v) k) → ∀ v, P v → g (zfold G v N) = zfold G (g v) N
  | 0, _, _, _, _ => rfl
  | N + 1, hp, hc, v, hv => by
    have ih := zfold_pull (G := G) (P := P) (g := g) (N := N) (fun k hk => hp k (Nat.lt_succ_of_lt hk)) (fun k hk => hc k (Nat.lt_succ_of_lt hk)) v hv
    show g (G (zfold G v N) N) = G (zfold G (g v) N) N
    rw [hc N (Nat.lt_succ_self N) _ (zfold_P (P := P) hv (fun k hk => hp k (Nat.lt_succ_of_lt hk))), ih]
theorem zfold_rev {α : Type} {G : α → Nat → α} {P : α → Prop} : ∀ {N : Nat}, (∀ k, k < N → ∀ v, P v → P (G v k)) → (∀ a b, a < N → b < N → ∀ v, P v → G (G v a) b = G (G v b) a) → ∀ v, P v → zfold (fun v k => G v (N - 1 - k)) v N = zfold G v N
  | 0, _, _, _, _ => rfl
  | N + 1, hp, hc, v, hv => by
    have hp' : ∀ k, k < N → ∀ v, P v → P (G v k) := fun k hk => hp k (Nat.lt_succ_of_lt hk)
    have ih := zfold_rev (G := G) (P := P) (N := N) hp' (fun a b ha hb => hc a b (Nat.lt_succ_of_lt ha) (Nat.lt_succ_of_lt hb)) (G v N) (hp N (Nat.lt_succ_self N) v hv)
    rw [zfold_front]
    have e : zfold (fun v k => G v (N + 1 - 1 - (k + 1))) (G v (N + 1 - 1 - 0)) N = zfold (fun v k => G v (N - 1 - k)) (G v N) N := zfold_cong (fun k hk v => by rw [show N + 1 - 1 - (k + 1) = N - 1 - k by omega])
    rw [e, ih]
    exact (zfold_pull (G := G) (P := P) (g := fun v => G v N) hp' (fun k hk v hv => hc k N (Nat.lt_succ_of_lt hk) (Nat.lt_succ_self N) v hv) v hv).symm
/-- the same of folds of folds -/
theorem zfold_rev2 {α : Type} {G : Nat → α → Nat → α} {cnt : Nat → Nat} {P : α → Prop} {N : Nat} (hp : ∀ k, k < N → ∀ q, q < cnt k → ∀ v, P v → P (G k v q)) (hc : ∀ a b, a < N → b < N → ∀ x y, x < cnt a → y < cnt b → ∀ v, P v → G b (G a v x) y = G a (G b v y) x) (v : α) (hv : P v) :
    zfold (fun v k => zfold (G (N - 1 - k)) v (cnt (N - 1 - k))) v N = zfold (fun v k => zfold (G k) v (cnt k)) v N := by
  refine zfold_rev (G := fun v k => zfold (G k) v (cnt k)) (P := P) (fun k hk v hv => zfold_P (P := P) hv (fun q hq v hv => hp k hk q hq v hv)) (fun a b ha hb v hv => ?_) v hv
  show zfold (G b) (zfold (G a) v (cnt a)) (cnt b) = zfold (G a) (zfold (G b) v (cnt b)) (cnt a)
  refine zfold_pull (G := G a) (P := P) (g := fun v => zfold (G b) v (cnt b)) (fun q hq v hv => hp a ha q hq v hv) (fun x hx v hv => ?_) v hv
  exact (zfold_pull (G := G b) (P := P) (g := fun v => G a v x) (fun q hq v hv => hp b hb q hq v hv) (fun y hy v hv => (hc a b ha hb x y hx hy v hv).symm) v hv).symm
/-! what the caveats of a chain leave -/
def zles (a x : Int32) : Int32 := if a = -1 then x else if a ≤ x then a else x
def zmx (x : Int32) : Int32 := if 0 < x then x else 0
def znar (j : Nat) (kd a b u v : Int32) : Int32 := match j with
  | 0 => if kd = 0 then v &&& a else v
  | 1 => if kd = 1 then zles v a else v
  | 2 => if kd = 2 then v &&& (1 <<< (a &&& 31)) else v
  | 3 => if kd = 3 then zles v (zmx (a - u)) else v
  | 4 => if kd = 4 then (if v < a then a else v) else v
  | _ => if kd = 4 then (if b < v then b else v) else v
def zini (j : Nat) : Int32 := match j with
  | 0 => 15
  | 1 => -1
  | 2 => 63
  | 3 => -1
  | 4 => 0
  | _ => 999
def zstp (c : zs) (j l : Nat) (v : Int32) (q : Nat) : Int32 := znar j (c 10 (l * 4 + q)) (c 11 (l * 4 + q)) (c 12 (l * 4 + q)) (c 7 l) v
def zcv (c : zs) (l : Nat) : Nat := zN (c 9 l)
def zlim (c : zs) (t j : Nat) : Int32 := zfold (fun v k => zfold (zstp c j (zch c t k)) v (zcv c (zch c t k))) (zini j) (zln c t)
theorem zp_rd (σ : zs) (k j : Nat) (v : Int32) (a i : Nat) : zp σ k j v a i = if a = k ∧ i = j then v else σ a i := by
  by_cases h : a = k
  · subst h
    by_cases e : i = j
    · subst e; rw [zp_e, if_pos ⟨rfl, rfl⟩]
    · rw [zp_o _ _ e, if_neg (fun q => e q.2)]
  · rw [zp_n _ _ _ h, if_neg (fun q => h q.1)]
theorem p_X3_lesser (σ : zs) (a x : Int32) : f_X3_lesser σ a x = some (zles a x, σ) := by
  unfold f_X3_lesser zles
  split
  · rfl
  · split <;> rfl
theorem z6 {P : Nat → Prop} (h0 : P 0) (h1 : P 1) (h2 : P 2) (h3 : P 3) (h4 : P 4) (h5 : P 5) : ∀ j, j < 6 → P j := by
  intro j hj
  have : j = 0 ∨ j = 1 ∨ j = 2 ∨ j = 3 ∨ j = 4 ∨ j = 5 := by omega
  rcases this with rfl | rfl | rfl | rfl | rfl | rfl <;> assumption
theorem zr5 {x : Int32} (h : zr x 5) : x = 0 ∨ x = 1 ∨ x = 2 ∨ x = 3 ∨ x = 4 := by
  obtain ⟨v, h1, -, rfl⟩ := h
  have : v = 0 ∨ v = 1 ∨ v = 2 ∨ v = 3 ∨ v = 4 := by omega
  rcases this with rfl | rfl | rfl | rfl | rfl
  · exact Or.inl rfl
  · exact Or.inr (Or.inl rfl)
  · exact Or.inr (Or.inr (Or.inl rfl))
  · exact Or.inr (Or.inr (Or.inr (Or.inl rfl)))
  · exact Or.inr (Or.inr (Or.inr (Or.inr rfl)))
theorem p_X3_narrow (σ : zs) {kd a b u : Int32} (hk : zr kd 5) : ∃ σ', f_X3_narrow σ kd a b u = some (0, σ') ∧ (∀ p, p ≠ 13 → σ' p = σ p) ∧ ∀ j, j < 6 → σ' 13 j = znar j kd a b u (σ 13 j) := by
  unfold f_X3_narrow
  rcases zr5 hk with rfl | rfl | rfl | rfl | rfl
  · rw [if_pos rfl]
    refine ⟨_, rfl, fun p hp => zp_n _ _ _ hp, z6 ?_ ?_ ?_ ?_ ?_ ?_⟩ <;> simp [zp_rd, znar]
  · rw [if_neg (by decide), if_pos rfl, p_X3_lesser, zb_s]
    refine ⟨_, rfl, fun p hp => zp_n _ _ _ hp, z6 ?_ ?_ ?_ ?_ ?_ ?_⟩ <;> simp [zp_rd, znar]
  · rw [if_neg (by decide), if_neg (by decide), if_pos rfl]
    refine ⟨_, rfl, fun p hp => zp_n _ _ _ hp, z6 ?_ ?_ ?_ ?_ ?_ ?_⟩ <;> simp [zp_rd, znar]
  · rw [if_neg (by decide), if_neg (by decide), if_neg (by decide), if_pos rfl, p_X3_lesser, zb_s]
    refine ⟨_, rfl, fun p hp => zp_n _ _ _ hp, z6 ?_ ?_ ?_ ?_ ?_ ?_⟩ <;> simp [zp_rd, znar, zmx]
  · rw [if_neg (by decide), if_neg (by decide), if_neg (by decide), if_neg (by decide)]
    refine ⟨_, rfl, fun p hp => by rw [zp_n _ _ _ hp, zp_n _ _ _ hp], z6 ?_ ?_ ?_ ?_ ?_ ?_⟩ <;> simp [zp_rd, znar]
theorem zcv_eq {c : zs} {m : Nat → Int32} {K t : Nat} (h : RTk c m K t) : c 9 t = nI (zcv c t) ∧ zcv c t ≤ 4 := by
  obtain ⟨h1, h2, h3⟩ := zr_N h.2.2.2.2.2.2.2.1.2
  exact ⟨h1, Nat.le_of_lt_succ h2⟩
theorem RTk_cv {c : zs} {m : Nat → Int32} {K t : Nat} (h : RTk c m K t) {q : Nat} (hq : q < zcv c t) : (m (219 + 3 * (4 * t + q) + 0) = c 10 (t * 4 + q) ∧ m (219 + 3 * (4 * t + q) + 1) = c 11 (t * 4 + q) ∧ m (219 + 3 * (4 * t + q) + 2) = c 12 (t * 4 + q)) ∧ zr (c 10 (t * 4 + q)) 5 ∧ zr (c 11 (t * 4 + q)) 1000 ∧ (c 10 (t * 4 + q) = 0 → zr (c 11 (t * 4 + q)) 16) ∧ (c 10 (t * 4 + q) = 2 → zr (c 11 (t * 4 + q)) 6) ∧ (c 10 (t * 4 + q) = 4 → zr (c 12 (t * 4 + q)) 1000) := h.2.2.2.2.2.2.2.2 q hq
def zQlim (σ : zs) (t : Nat) (x : Option (Int32 × zs)) : Prop := ∃ σ' : zs, x = some (0, σ') ∧ (∀ p, p ≠ 13 → σ' p = σ p) ∧ ∀ j, j < 6 → σ' 13 j = zlim σ t j
section PE
variable {σ : zs} {m : Nat → Int32} {K n : Nat}
theorem p_X7_limitsOf (hn : n ≤ 28) (h : ∀ t, t < n → RTk σ m K t) {t : Nat} (ht : t < n) : zQlim σ t (f_X7_limitsOf σ (nI t)) := by
  obtain ⟨hl, hl1, hl7⟩ := zln_eq (h t ht)
  unfold f_X7_limitsOf f_X3_openAll
  rw [zb_s]
  refine zli2 (zln σ t) (fun k s a b => a = nI t ∧ b = nI k ∧ (∀ p, p ≠ 13 → s p = σ p) ∧ ∀ j, j < 6 → s 13 j = zfold (fun v k => zfold (zstp σ j (zch σ t k)) v (zcv σ (zch σ t k))) (zini j) k) (Q := zQlim σ t) ?_ ?_ 1000 (by omega) ?_
  · rintro k hk s a b ⟨rfl, rfl, hf, hv⟩ rec kk
    obtain ⟨e1, e2⟩ := zch_lt (h t ht) hk
    generalize hle : zch σ t k = l at e1 e2
    have hln : l < n := by omega
    obtain ⟨c1, c2⟩ := zcv_eq (h l hln)
    rw [f_X7_limitsOf_9]
    simp (disch := omega) only [zk7, nI_mul, nI_add, nI_1, zcl, zg_in, hf 4 (by decide), hf 5 (by decide), hl, znI_le, e1]
    rw [if_neg (by omega)]
    refine zli4 (Q := zQlim σ t) (zcv σ l) (fun q s a b c d => a = nI t ∧ b = nI k ∧ c = nI l ∧ d = nI q ∧ (∀ p, p ≠ 13 → s p = σ p) ∧ ∀ j, j < 6 → s 13 j = zfold (zstp σ j l) (zfold (fun v k => zfold (zstp σ j (zch σ t k)) v (zcv σ (zch σ t k))) (zini j) k) q) ?_ ?_ 1000 (by omega) ⟨rfl, rfl, rfl, rfl, hf, hv⟩
    · rintro q hq s a b c d ⟨rfl, rfl, rfl, rfl, hf, hv⟩ rec2 kk2
      have C := RTk_cv (h l hln) hq
      rw [f_X7_limitsOf_34]
      simp (disch := omega) only [zk4, nI_mul, nI_add, nI_1, zcl, zg_in, hf 9 (by decide), hf 10 (by decide), hf 11 (by decide), hf 12 (by decide), hf 7 (by decide), c1, znI_le]
      rw [if_neg (by omega)]
      obtain ⟨s1, g1, g2, g3⟩ := p_X3_narrow s (kd := σ 10 (l * 4 + q)) (a := σ 11 (l * 4 + q)) (b := σ 12 (l * 4 + q)) (u := σ 7 l) C.2.1
      rw [g1, zb_s]
      refine kk2 s1 _ _ _ _ ⟨rfl, rfl, rfl, rfl, fun p hp => by rw [g2 p hp, hf p hp], fun j hj => ?_⟩
      rw [g3 j hj, hv j hj]
      rfl
    · rintro s a b c d ⟨rfl, rfl, rfl, rfl, hf, hv⟩ rec2
      rw [f_X7_limitsOf_34]
      simp (disch := omega) only [zcl, zg_in, hf 9 (by decide), c1, znI_le, nI_1]
      rw [if_pos (Nat.le_refl _)]
      refine kk s _ _ ⟨rfl, rfl, hf, fun j hj => ?_⟩
      rw [hv j hj]
      show _ = zfold (zstp σ j (zch σ t k)) _ (zcv σ (zch σ t k))
      rw [hle]
  · rintro s a b ⟨rfl, rfl, hf, hv⟩ rec
    rw [f_X7_limitsOf_9]
    simp (disch := omega) only [zcl, zg_in, hf 4 (by decide), hl, znI_le]
    rw [if_pos (Nat.le_refl _)]
    exact ⟨s, rfl, hf, hv⟩
  · refine ⟨rfl, rfl, fun p hp => by simp (disch := omega) only [zp_n], z6 ?_ ?_ ?_ ?_ ?_ ?_⟩ <;> simp [zp_rd, zfold, zini]
end PE
