/-! the pure side: how guards and numbers run -/
theorem zk1 : (1 : Int32) = nI 1 := rfl
theorem zk2 : (2 : Int32) = nI 2 := rfl
theorem zk3 : (3 : Int32) = nI 3 := rfl
theorem zk4 : (4 : Int32) = nI 4 := rfl
theorem zk5 : (5 : Int32) = nI 5 := rfl
theorem zk6 : (6 : Int32) = nI 6 := rfl
theorem zk7 : (7 : Int32) = nI 7 := rfl
theorem zk8 : (8 : Int32) = nI 8 := rfl
theorem zk10 : (10 : Int32) = nI 10 := rfl
theorem zk12 : (12 : Int32) = nI 12 := rfl
theorem zk15 : (15 : Int32) = nI 15 := rfl
theorem zk16 : (16 : Int32) = nI 16 := rfl
theorem zk20 : (20 : Int32) = nI 20 := rfl
theorem zk24 : (24 : Int32) = nI 24 := rfl
theorem zk27 : (27 : Int32) = nI 27 := rfl
theorem zk28 : (28 : Int32) = nI 28 := rfl
theorem zk39 : (39 : Int32) = nI 39 := rfl
theorem zk40 : (40 : Int32) = nI 40 := rfl
theorem zk51 : (51 : Int32) = nI 51 := rfl
theorem zk79 : (79 : Int32) = nI 79 := rfl
theorem zk100 : (100 : Int32) = nI 100 := rfl
theorem zk107 : (107 : Int32) = nI 107 := rfl
theorem zk135 : (135 : Int32) = nI 135 := rfl
theorem zk163 : (163 : Int32) = nI 163 := rfl
theorem zk191 : (191 : Int32) = nI 191 := rfl
theorem zk219 : (219 : Int32) = nI 219 := rfl
theorem zk255 : (255 : Int32) = nI 255 := rfl
theorem zk555 : (555 : Int32) = nI 555 := rfl
theorem zk559 : (559 : Int32) = nI 559 := rfl
theorem zk563 : (563 : Int32) = nI 563 := rfl
theorem zk575 : (575 : Int32) = nI 575 := rfl
theorem zk587 : (587 : Int32) = nI 587 := rfl
theorem zk599 : (599 : Int32) = nI 599 := rfl
theorem zk600 : (600 : Int32) = nI 600 := rfl
theorem zk999 : (999 : Int32) = nI 999 := rfl
theorem zk1000 : (1000 : Int32) = nI 1000 := rfl
theorem zg_in {α : Type} {a N : Nat} (t : Option α) (h : a < N) (hN : N < 2147483648) : zg (zin (nI a) N) t = t := by
  rw [zin_n h hN]; rfl
theorem zg_0 {α : Type} {N : Nat} (t : Option α) (h : 0 < N) : zg (zin (0 : Int32) N) t = t := by
  have e : zin (0 : Int32) N = true := by
    have e0 : (0 : Int32).toNatClampNeg = 0 := rfl
    simp [zin, e0, h]
  rw [e]; rfl
theorem zcl {a : Nat} (h : a < 2147483648) : (nI a).toNatClampNeg = a := nI_clamp h
theorem zcl0 : (0 : Int32).toNatClampNeg = 0 := rfl
theorem zcl1 : (1 : Int32).toNatClampNeg = 1 := rfl
theorem znI_le {a b : Nat} (ha : a < 2147483648) (hb : b < 2147483648) : (nI a ≤ nI b) = (a ≤ b) := propext (nI_leI ha hb)
theorem znI_lt {a b : Nat} (ha : a < 2147483648) (hb : b < 2147483648) : (nI a < nI b) = (a < b) := propext (nI_ltI ha hb)
theorem zif_1 {α : Sort _} {p : Prop} [Decidable p] {a b : α} (h : p) : (if p then a else b) = a := if_pos h
theorem zif_0 {α : Sort _} {p : Prop} [Decidable p] {a b : α} (h : ¬ p) : (if p then a else b) = b := if_neg h
def zbit (x : Int32) (k : Nat) : Bool := x.toBitVec.getLsbD k
theorem zand1 (y : Int32) : (y &&& 1 = 0) = (zbit y 0 = false) := by
  apply propext
  rw [← Int32.toBitVec_inj]
  constructor
  · intro h
    have h2 := congrArg (fun z => BitVec.getLsbD z 0) h
    simpa [zbit] using h2
  · intro h
    apply BitVec.eq_of_getLsbD_eq
    intro i hi
    by_cases e : i = 0
    · subst e
      simpa [zbit] using h
    · simp [e]
theorem zand01 (y : Int32) : y &&& 1 = 0 ∨ y &&& 1 = 1 := by
  cases h : zbit y 0 with
  | false => left; rw [zand1]; exact h
  | true =>
    right
    rw [← Int32.toBitVec_inj]
    apply BitVec.eq_of_getLsbD_eq
    intro i hi
    by_cases e : i = 0
    · subst e
      simpa [zbit] using h
    · simp [e]
theorem zshr (x : Int32) {k : Nat} (hk : k < 32) : zbit (x >>> (nI k &&& 31)) 0 = zbit x k := by
  have e : ∀ k, k < 32 → (nI k &&& 31).toBitVec.toNat = k ∧ ((nI k &&& 31).toBitVec.smod 32).toNat = k := by decide +kernel
  obtain ⟨e1, e2⟩ := e k hk
  unfold zbit
  rw [Int32.toBitVec_shiftRight]
  unfold BitVec.sshiftRight'
  rw [BitVec.getLsbD_sshiftRight]
  rw [e2]
  simp [hk]
theorem p_has (σ : zs) (x : Int32) {k : Nat} (hk : k < 32) : f_X9_has σ x (nI k) = some (bI (zbit x k), σ) := by
  unfold f_X9_has
  have h := zand1 (x >>> (nI k &&& 31))
  rw [zshr x hk] at h
  cases hb : zbit x k with
  | false =>
    rw [hb] at h
    have h0 : x >>> (nI k &&& 31) &&& 1 = 0 := by rw [h]
    rw [h0]; rfl
  | true =>
    rw [hb] at h
    have h1 : x >>> (nI k &&& 31) &&& 1 = 1 := by
      have h2 : ¬ x >>> (nI k &&& 31) &&& 1 = 0 := by rw [h]; decide
      rcases zand01 (x >>> (nI k &&& 31)) with q | q
      · exact absurd q h2
      · exact q
    rw [h1]; rfl
