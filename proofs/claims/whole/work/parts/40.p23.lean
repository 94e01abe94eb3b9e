/-! what could come: sets and rounds -/
abbrev zX : Type := Nat → Nat → Bool
def zob (c : zs) (t : Nat) : Nat := zN (c 3 t)
def zgt (c : zs) (w : Int32) (s t : Nat) : Bool := !decide (zopen c (nI s) t &&& w = 0)
def zgo (c : zs) (n : Nat) (X : zX) (s u : Nat) : Bool := zany (fun t => (decide (zob c t < 6) && (X s t && zgt c 2 s t)) && (zob c t == u)) n
def zgr (c : zs) (n : Nat) (X : zX) (s t : Nat) : Bool := decide (t < n) && (X s t && zgt c 4 s t)
def zFb (c : zs) (n : Nat) (X : zX) : zX := fun u t => zany (fun s => zgo c n X s u && zgr c n X s t) 6
def zRb (c : zs) (n : Nat) (B : zX) : Nat → zX
  | 0 => B
  | k + 1 => fun u t => zRb c n B k u t || zFb c n (zRb c n B k) u t
def zsub (X Y : zX) : Prop := ∀ u, u < 6 → ∀ t, X u t = true → Y u t = true
def zclo (c : zs) (n : Nat) (Y : zX) : Prop := zsub (zFb c n Y) Y
theorem zsub_r (X : zX) : zsub X X := fun _ _ _ h => h
theorem zsub_t {X Y Z : zX} (h : zsub X Y) (k : zsub Y Z) : zsub X Z := fun u hu t ht => k u hu t (h u hu t ht)
theorem zFb_mono {c : zs} {n : Nat} {X Y : zX} (h : zsub X Y) : zsub (zFb c n X) (zFb c n Y) := by
  intro u hu t ht
  unfold zFb at *
  obtain ⟨s, hs, hp⟩ := (zany_iff _ _).mp ht
  rw [Bool.and_eq_true] at hp
  refine (zany_iff _ _).mpr ⟨s, hs, ?_⟩
  rw [Bool.and_eq_true]
  refine ⟨?_, ?_⟩
  · obtain ⟨t2, ht2, hq⟩ := (zany_iff _ _).mp hp.1
    simp only [Bool.and_eq_true] at hq
    refine (zany_iff _ _).mpr ⟨t2, ht2, ?_⟩
    simp only [Bool.and_eq_true]
    exact ⟨⟨hq.1.1, h s hs t2 hq.1.2.1, hq.1.2.2⟩, hq.2⟩
  · have hq := hp.2
    unfold zgr at *
    simp only [Bool.and_eq_true] at hq ⊢
    exact ⟨hq.1, h s hs t hq.2.1, hq.2.2⟩
theorem zFb_n {c : zs} {n : Nat} {X : zX} {u t : Nat} (h : zFb c n X u t = true) : t < n := by
  obtain ⟨s, hs, hp⟩ := (zany_iff _ _).mp h
  unfold zgr at hp
  simp only [Bool.and_eq_true, decide_eq_true_eq] at hp
  exact hp.2.1
theorem zRb_s (c : zs) (n : Nat) (B : zX) (k : Nat) : zsub (zRb c n B k) (zRb c n B (k + 1)) := fun u _ t h => by
  show (zRb c n B k u t || _) = true
  rw [h]; rfl
theorem zRb_le (c : zs) (n : Nat) (B : zX) {j : Nat} : ∀ {k : Nat}, j ≤ k → zsub (zRb c n B j) (zRb c n B k)
  | 0, h => by rw [show j = 0 by omega]; exact zsub_r _
  | k + 1, h => by
    by_cases e : j = k + 1
    · subst e; exact zsub_r _
    · exact zsub_t (zRb_le c n B (k := k) (by omega)) (zRb_s c n B k)
theorem zRb_in {c : zs} {n : Nat} {B Y : zX} (hB : zsub B Y) (hY : zclo c n Y) : ∀ k, zsub (zRb c n B k) Y
  | 0 => hB
  | k + 1 => fun u hu t h => by
    have ih := zRb_in hB hY k
    have h' : (zRb c n B k u t || zFb c n (zRb c n B k) u t) = true := h
    rcases (Bool.or_eq_true _ _).mp h' with q | q
    · exact ih u hu t q
    · exact hY u hu t (zFb_mono ih u hu t q)
theorem zRb_n {c : zs} {n : Nat} {B : zX} (hB : ∀ u t, B u t = true → t < n) : ∀ k u t, zRb c n B k u t = true → t < n
  | 0, u, t, h => hB u t h
  | k + 1, u, t, h => by
    have h' : (zRb c n B k u t || zFb c n (zRb c n B k) u t) = true := h
    rcases (Bool.or_eq_true _ _).mp h' with q | q
    · exact zRb_n hB k u t q
    · exact zFb_n q
def zct (X : zX) (n : Nat) : Nat := zcnt (X 0) n + zcnt (X 1) n + zcnt (X 2) n + zcnt (X 3) n + zcnt (X 4) n + zcnt (X 5) n
theorem zct_le (X : zX) (n : Nat) : zct X n ≤ 6 * n := by
  have h := fun u => zcnt_le (X u) n
  have h0 := h 0; have h1 := h 1; have h2 := h 2; have h3 := h 3; have h4 := h 4; have h5 := h 5
  unfold zct; omega
theorem zct_mono {X Y : zX} (h : zsub X Y) (n : Nat) : zct X n ≤ zct Y n := by
  have hh : ∀ u, u < 6 → zcnt (X u) n ≤ zcnt (Y u) n := fun u hu => zcnt_mono (fun i _ hi => h u hu i hi)
  have h0 := hh 0 (by decide); have h1 := hh 1 (by decide); have h2 := hh 2 (by decide); have h3 := hh 3 (by decide); have h4 := hh 4 (by decide); have h5 := hh 5 (by decide)
  unfold zct; omega
theorem zct_lt {X Y : zX} (h : zsub X Y) {n u t : Nat} (hu : u < 6) (ht : t < n) (h1 : Y u t = true) (h2 : X u t = false) : zct X n < zct Y n := by
  have hh : ∀ u, u < 6 → zcnt (X u) n ≤ zcnt (Y u) n := fun u hu => zcnt_mono (fun i _ hi => h u hu i hi)
  have hl : zcnt (X u) n < zcnt (Y u) n := zcnt_less (fun i _ hi => h u hu i hi) t ht h1 h2
  have a0 := hh 0 (by decide); have a1 := hh 1 (by decide); have a2 := hh 2 (by decide); have a3 := hh 3 (by decide); have a4 := hh 4 (by decide); have a5 := hh 5 (by decide)
  have hc : u = 0 ∨ u = 1 ∨ u = 2 ∨ u = 3 ∨ u = 4 ∨ u = 5 := by omega
  unfold zct
  rcases hc with rfl | rfl | rfl | rfl | rfl | rfl <;> omega
theorem zRb_ct {c : zs} {n : Nat} {B : zX} : ∀ k, (∀ j, j < k → ¬ zclo c n (zRb c n B j)) → k ≤ zct (zRb c n B k) n
  | 0, _ => Nat.zero_le _
  | k + 1, h => by
    have ih := zRb_ct k (fun j hj => h j (by omega))
    have hk := h k (by omega)
    have : ∃ u, u < 6 ∧ ∃ t, zFb c n (zRb c n B k) u t = true ∧ zRb c n B k u t = false := by
      apply Classical.byContradiction
      intro hn
      apply hk
      intro u hu t ht
      cases e : zRb c n B k u t with
      | true => rfl
      | false => exact absurd ⟨u, hu, t, ht, e⟩ hn
    obtain ⟨u, hu, t, h1, h2⟩ := this
    have := zct_lt (zRb_s c n B k) hu (zFb_n h1) (show (zRb c n B k u t || zFb c n (zRb c n B k) u t) = true by rw [h1]; simp) h2
    omega
theorem zRb_clo {c : zs} {n : Nat} (hn : n ≤ 28) (B : zX) : zclo c n (zRb c n B 168) := by
  by_cases h : ∃ k, k ≤ 168 ∧ zclo c n (zRb c n B k)
  · obtain ⟨k, hk, hc⟩ := h
    have h1 : zsub (zRb c n B 168) (zRb c n B k) := zRb_in (zRb_le c n B (j := 0) (Nat.zero_le k)) hc 168
    exact zsub_t (zFb_mono h1) (zsub_t hc (zRb_le c n B hk))
  · have h1 := zRb_ct (c := c) (n := n) (B := B) 169 (fun j hj hc => h ⟨j, by omega, hc⟩)
    have h2 := zct_le (zRb c n B 169) n
    omega
theorem zRb_fix {c : zs} {n : Nat} (hn : n ≤ 28) {B : zX} {k : Nat} (hc : zclo c n (zRb c n B k)) : ∀ u, u < 6 → ∀ t, zRb c n B k u t = zRb c n B 168 u t := by
  have h1 : zsub (zRb c n B k) (zRb c n B 168) := zRb_in (zRb_le c n B (j := 0) (Nat.zero_le _)) (zRb_clo hn B) k
  have h2 : zsub (zRb c n B 168) (zRb c n B k) := zRb_in (zRb_le c n B (j := 0) (Nat.zero_le k)) hc 168
  intro u hu t
  cases e : zRb c n B k u t with
  | true => exact (h1 u hu t e).symm
  | false =>
    cases e2 : zRb c n B 168 u t with
    | false => rfl
    | true => rw [h2 u hu t e2] at e; cases e
/-- what a closed set between holds -/
theorem zRb_eq {c : zs} {n : Nat} (hn : n ≤ 28) {B Y : zX} (h1 : zsub B Y) (h2 : zsub Y (zRb c n B 168)) (h3 : zclo c n Y) : ∀ u, u < 6 → ∀ t, Y u t = zRb c n B 168 u t := by
  have h4 := zRb_in h1 h3 168
  intro u hu t
  cases e : Y u t with
  | true => exact (h2 u hu t e).symm
  | false =>
    cases e2 : zRb c n B 168 u t with
    | false => rfl
    | true => rw [h4 u hu t e2] at e; cases e
/-! rows of sets -/
def zis (f : Nat → Int32) (X : zX) : Prop := ∀ u, u < 6 → ∀ t, t < 32 → zbit (f u) t = X u t
def zsd (w : Nat → Bool) (ob : Nat → Nat) (G : Int32) (f : Nat → Int32) (t : Nat) : Nat → Int32 := if w t then upd f (ob t) (f (ob t) ||| G) else f
theorem zsd_bit (w : Nat → Bool) (ob : Nat → Nat) (G : Int32) (f : Nat → Int32) (u k : Nat) : ∀ N, zbit (zfold (zsd w ob G) f N u) k = (zbit (f u) k || (zany (fun t => w t && (ob t == u)) N && zbit G k))
  | 0 => by simp [zfold, zany]
  | N + 1 => by
    have ih := zsd_bit w ob G f u k N
    show zbit (zsd w ob G (zfold (zsd w ob G) f N) N u) k = _
    unfold zsd
    rw [zany]
    by_cases hw : w N = true
    · rw [if_pos hw]
      by_cases e : u = ob N
      · subst e
        rw [upd_s, zbit_or]
        have ih' : zbit (zfold (zsd w ob G) f N (ob N)) k = (zbit (f (ob N)) k || (zany (fun t => w t && (ob t == ob N)) N && zbit G k)) := ih
        show (zbit (zfold (zsd w ob G) f N (ob N)) k || zbit G k) = _
        rw [ih', hw]
        cases zbit (f (ob N)) k <;> cases zany (fun t => w t && (ob t == ob N)) N <;> cases zbit G k <;> simp
      · rw [upd_n _ _ e]
        show zbit (zfold (zsd w ob G) f N u) k = _
        rw [ih, beq_eq_false_iff_ne.mpr (Ne.symm e), Bool.and_false, Bool.or_false]
    · rw [if_neg hw]
      show zbit (zfold (zsd w ob G) f N u) k = _
      have hw' : w N = false := by simpa using hw
      rw [ih, hw', Bool.false_and, Bool.or_false]
def zsn (c : zs) (n : Nat) (X : zX) (s : Nat) (f : Nat → Int32) : Nat → Int32 := zfold (zsd (fun t => decide (zob c t < 6) && (X s t && zgt c 2 s t)) (zob c) (zset (fun t => X s t && zgt c 4 s t) n)) f n
theorem zsn_bit {c : zs} {n : Nat} (hn : n ≤ 28) (X : zX) (s : Nat) (f : Nat → Int32) (u k : Nat) : zbit (zsn c n X s f u) k = (zbit (f u) k || (zgo c n X s u && zgr c n X s k)) := by
  unfold zsn
  rw [zsd_bit, zbit_set _ (by omega)]; rfl
def zal (c : zs) (n : Nat) (X : zX) (f : Nat → Int32) (N : Nat) : Nat → Int32 := zfold (fun f s => zsn c n X s f) f N
theorem zal_bit' {c : zs} {n : Nat} (hn : n ≤ 28) (X : zX) (f : Nat → Int32) (u k : Nat) : ∀ N, zbit (zal c n X f N u) k = (zbit (f u) k || zany (fun s => zgo c n X s u && zgr c n X s k) N)
  | 0 => by simp [zal, zfold, zany]
  | N + 1 => by
    have ih := zal_bit' (c := c) (n := n) hn X f u k N
    show zbit (zsn c n X N (zal c n X f N) u) k = _
    rw [zsn_bit hn, ih, zany, Bool.or_assoc]
theorem zal_bit {c : zs} {n : Nat} (hn : n ≤ 28) (X : zX) (f : Nat → Int32) (u k : Nat) : zbit (zal c n X f 6 u) k = (zbit (f u) k || zFb c n X u k) := zal_bit' hn X f u k 6
theorem zFb_cong {c : zs} {n : Nat} {X Y : zX} (hn : n ≤ 28) (h : ∀ u, u < 6 → ∀ t, t < 32 → X u t = Y u t) (u t : Nat) : zFb c n X u t = zFb c n Y u t := by
  unfold zFb
  refine zany_cong (fun s hs => ?_)
  have e1 : zgo c n X s u = zgo c n Y s u := zany_cong (fun t2 ht2 => by rw [h s hs t2 (by omega)])
  have e2 : zgr c n X s t = zgr c n Y s t := by
    unfold zgr
    by_cases q : t < n
    · rw [h s hs t (by omega)]
    · rw [decide_eq_false q]; rfl
  rw [e1, e2]
theorem zsn_cong {c : zs} {n s : Nat} {X Y : zX} (f : Nat → Int32) (h : ∀ t, t < n → X s t = Y s t) : zsn c n X s f = zsn c n Y s f := by
  unfold zsn
  have e : zset (fun t => X s t && zgt c 4 s t) n = zset (fun t => Y s t && zgt c 4 s t) n := zset_cong (fun t ht => by rw [h t ht])
  rw [e]
  refine zfold_cong (fun t ht f => ?_)
  unfold zsd
  simp only [h t ht]
/-- what is held, and what lies in boxes that can be opened -/
def zcan (c : zs) (u b : Nat) : Bool := zbit (c 19 b) u && zbit (c 16 (zN (c 17 b))) u
def zBb (c : zs) (n nx : Nat) : zX := fun u t => (decide (t < n) && zbit (c 6 t) u) || zany (fun b => zcan c u b && (zN (c 18 b) == t)) nx
theorem zhold_c {c c' : zs} (h1 : c' 1 5 = c 1 5) (h : ∀ p, 3 ≤ p → p ≤ 12 → c' p = c p) (s r a : Int32) (l q : Nat) : zhold c' s r a l q = zhold c s r a l q := by
  unfold zhold
  rw [h1, h 7 (by decide) (by decide), h 10 (by decide) (by decide), h 11 (by decide) (by decide), h 12 (by decide) (by decide)]
theorem zopen_c {c c' : zs} (h1 : c' 1 5 = c 1 5) (h : ∀ p, 3 ≤ p → p ≤ 12 → c' p = c p) (s : Int32) (t : Nat) : zopen c' s t = zopen c s t := by
  have e1 : zed c' t = zed c t := by simp only [zed, zch, zln, h 4 (by decide) (by decide), h 5 (by decide) (by decide), h 8 (by decide) (by decide)]
  have e2 : ∀ l q, zbad c' s l q = zbad c s l q := fun l q => by
    unfold zbad
    rw [zhold_c h1 h, h 10 (by decide) (by decide)]
  have e3 : ∀ l, zbad c' s l = zbad c s l := fun l => funext (fun q => e2 l q)
  have e4 : zcl2 c' t (zbad c' s) = zcl2 c t (zbad c s) := by
    simp only [zcl2, zch, zln, zcv, e3, h 4 (by decide) (by decide), h 5 (by decide) (by decide), h 9 (by decide) (by decide)]
  unfold zopen
  rw [e1, e4, zlim_c3 h, zlim_c3 h, zlim_c3 h]
theorem zopen_15 (c : zs) (s : Int32) (t : Nat) : zopen c s t &&& 15 = zopen c s t := by
  have a : zlim c t 0 &&& 15 = zlim c t 0 := by
    refine zfold_P (P := fun v : Int32 => v &&& 15 = v) (by decide) (fun k _ v hv => zfold_P (P := fun v : Int32 => v &&& 15 = v) hv (fun q _ v hv => ?_))
    simp only [zstp, znar]
    split
    · rw [Int32.and_assoc, Int32.and_comm (c 11 (zch c t k * 4 + q)) 15, ← Int32.and_assoc, hv]
    · exact hv
  unfold zopen
  split
  · rfl
  · split
    · rfl
    · split
      · rfl
      · exact a
