/-! THE REFERENCE: what its methods answer, in the words of the state. -/
def inL (v lo hi : Int64) : Bool := !decide (v < lo) && !decide (hi < v)
theorem inL_c {v : Int32} {a b : Nat} (ha : a < 2 ^ 31) (hb : b < 2 ^ 31) : inL v.toInt64 (lN a) (lN b) = inR v (nI a) (nI b) := by
  have h1 : (v.toInt64 < lN a) ↔ (v < nI a) := by rw [Int64.lt_iff_toInt_lt, Int32.lt_iff_toInt_lt, Int32.toInt_toInt64, lN_toInt ha, nI_toInt ha]
  have h2 : (lN b < v.toInt64) ↔ (nI b < v) := by rw [Int64.lt_iff_toInt_lt, Int32.lt_iff_toInt_lt, Int32.toInt_toInt64, lN_toInt hb, nI_toInt hb]
  simp only [inL, inR, h1, h2]
theorem inL_dog {v : Int32} {n : Nat} (hn : n ≤ 100) : inL v.toInt64 (0 : Int64) (nI n - nI 1).toInt64 = hasR n v := by
  have e := pk_sub_toInt (a := n) (b := 1) (by omega) (by omega)
  have h1 : (v.toInt64 < (0 : Int64)) ↔ (v < 0) := by
    rw [Int64.lt_iff_toInt_lt, Int32.lt_iff_toInt_lt, Int32.toInt_toInt64]
    exact Iff.rfl
  have h2 : ((nI n - nI 1).toInt64 < v.toInt64) ↔ (nI n ≤ v) := by
    rw [Int64.lt_iff_toInt_lt, Int32.le_iff_toInt_le, Int32.toInt_toInt64, Int32.toInt_toInt64, e, nI_toInt (by omega)]
    omega
  simp only [inL, hasR, h1, h2]
-- closed streets
theorem spl_lit : ∀ k, k < 17 → spl k = [16, 17, 18, 20, 21, 22, 24, 25, 26, 28, 29, 30, 31, 32, 33, 34, 35].getD k 0 := by decide +kernel
theorem cl_sum {σ : Nat → Nat} {bd : Nat} (h : WF bd σ) : ct (cmk σ).testBit 24 = sm (fun k => σ (16 + k)) 24 := by
  have h9 := h.2.2.2.2.2.2.2.2
  have e1 : ct (cmk σ).testBit 24 = sm (fun k => σ (spl k)) 17 := by
    unfold cmk
    rw [ct_mk (by omega), ct_sm]
    refine sm_congr 17 (fun k hk => ?_)
    have q := spl_ok k hk
    have q2 := (h9 (spl k) q.2.1 q.2.2).1
    by_cases z : σ (spl k) = 0
    · rw [z]; rfl
    · rw [show σ (spl k) = 1 by omega]; rfl
  have z : ∀ i, i = 19 ∨ i = 23 ∨ i = 27 ∨ i = 36 ∨ i = 37 ∨ i = 38 ∨ i = 39 → σ i = 0 := fun i hi => by
    refine (h9 i (by omega) (by omega)).2 (fun k hk e => ?_)
    have : ∀ k, k < 17 → spl k ≠ 19 ∧ spl k ≠ 23 ∧ spl k ≠ 27 ∧ spl k ≠ 36 ∧ spl k ≠ 37 ∧ spl k ≠ 38 ∧ spl k ≠ 39 := by decide +kernel
    have q := this k hk
    omega
  rw [e1]
  simp only [sm]
  rw [show spl 0 = 16 from rfl, show spl 1 = 17 from rfl, show spl 2 = 18 from rfl, show spl 3 = 20 from rfl, show spl 4 = 21 from rfl, show spl 5 = 22 from rfl, show spl 6 = 24 from rfl, show spl 7 = 25 from rfl, show spl 8 = 26 from rfl, show spl 9 = 28 from rfl, show spl 10 = 29 from rfl, show spl 11 = 30 from rfl, show spl 12 = 31 from rfl, show spl 13 = 32 from rfl, show spl 14 = 33 from rfl, show spl 15 = 34 from rfl, show spl 16 = 35 from rfl]
  have z1 := z 19 (by omega)
  have z2 := z 23 (by omega)
  have z3 := z 27 (by omega)
  have z4 := z 36 (by omega)
  have z5 := z 37 (by omega)
  have z6 := z 38 (by omega)
  have z7 := z 39 (by omega)
  simp only [Nat.reduceAdd, z1, z2, z3, z4, z5, z6, z7, Nat.add_zero]
-- ways
def fwB (σ w : Nat → Nat) (i : Nat) : Nat → Nat := fun k => if k < i then fw0 σ k else w k
theorem fwB_0 {σ w : Nat → Nat} : fwB σ w 0 = w := by
  funext k
  simp [fwB]
theorem fwB_s {σ w : Nat → Nat} {i : Nat} : up (fwB σ w i) i (fw0 σ i) = fwB σ w (i + 1) := by
  funext k
  by_cases h : k = i
  · subst h
    simp [up, fwB]
  · have h2 : k < i + 1 ↔ k < i := by omega
    simp [up, fwB, h, h2]
theorem fw0_v {σ : Nat → Nat} {a b v : Nat} (hb : b < 12) (h : (a = b ∧ v = 0) ∨ (a ≠ b ∧ stp a b ≠ NN ∧ σ (stp a b) = 0 ∧ v = 1) ∨ (a ≠ b ∧ (stp a b = NN ∨ σ (stp a b) ≠ 0) ∧ v = 99)) : fw0 σ (12 * a + b) = v := by
  unfold fw0
  rw [show (12 * a + b) / 12 = a by omega, show (12 * a + b) % 12 = b by omega]
  rcases h with ⟨h1, h2⟩ | ⟨h1, h2, h3, h4⟩ | ⟨h1, h2, h3⟩
  · rw [if_pos h1, h2]
  · rw [if_neg h1, if_pos (by simp [adj, h2, h3]), h4]
  · rw [if_neg h1, if_neg (by rcases h2 with h2 | h2 <;> simp [adj, h2]), h3]
theorem fw0_le {σ : Nat → Nat} {k : Nat} : fw0 σ k ≤ 99 := by
  unfold fw0
  split
  · omega
  · split <;> omega
theorem fwk_le {m k : Nat} {w : Nat → Nat} (h : ∀ j, j < 144 → w j ≤ 99) (hk : k < 144) : ∀ j, j < 144 → fwk m k w j ≤ 99 := by
  intro j hj
  unfold fwk
  have := h k hk
  by_cases e : j = k
  · subst e
    rw [up_s]
    split <;> omega
  · rw [up_n e]
    exact h j hj
def fwV (σ : Nat → Nat) (m k : Nat) : Nat → Nat := lf (fun k w => fwk m k w) k (lf (fun m w => fwm m w) m (fw0 σ))
theorem fwV_s {σ : Nat → Nat} {m k : Nat} : fwV σ m (k + 1) = fwk m k (fwV σ m k) := rfl
theorem fwV_m {σ : Nat → Nat} {m : Nat} : fwV σ m 144 = fwV σ (m + 1) 0 := by
  have e : fwV σ (m + 1) 0 = fwm m (lf (fun m w => fwm m w) m (fw0 σ)) := rfl
  rw [e]
  unfold fwV fwm
  with_reducible rfl
theorem fwV_0 {σ : Nat → Nat} : fwV σ 0 0 = fw0 σ := rfl
theorem fwV_D {σ : Nat → Nat} : fwV σ 12 0 = D σ := rfl
theorem fwV_up {σ : Nat → Nat} {m k : Nat} : up (fwV σ m k) k (if fwV σ m k (12 * (k / 12) + m) + fwV σ m k (12 * m + k % 12) < fwV σ m k k then fwV σ m k (12 * (k / 12) + m) + fwV σ m k (12 * m + k % 12) else fwV σ m k k) = fwV σ m (k + 1) := rfl
-- bits
theorem ct8 {m : Nat} (h : m < 256) : ct m.testBit 8 = ct m.testBit 24 := by
  have e : ct m.testBit (8 + 16) = ct m.testBit 8 := ct_more (fun i hi => Nat.testBit_lt_two_pow (Nat.lt_of_lt_of_le h (Nat.pow_le_pow_right (n := 2) (by decide) hi))) 16
  exact e.symm
theorem ct8_le {p : Nat → Bool} : ct p 8 ≤ 8 := ct_le _ _
/-- a dog is missing: as the reference asks -/
theorem msg_i {σ : Nat → Nat} {d : Nat} (h : dg σ d 5 < 2 ^ 32) : (dg σ d 5 = NN) = (msg σ d = true) := by simp [msg]
theorem WF.s5 {σ : Nat → Nat} {hb s : Nat} (h : WF hb σ) (hs : s < σ 1) (hm : sg σ s 5 ≠ NN) : sg σ s 5 < σ 0 := ((h.ss hs).2.2.2.2.2.1.resolve_left hm).1
theorem ex_s {p : Nat → Bool} {n : Nat} : ex p (n + 1) = (ex p n || p n) := rfl
theorem sub_lt9 {x y : Nat} (hx : x < 2 ^ 30) (hy : y < 2 ^ 30) (h : nI x - nI y < 0) : x < y := by
  have e := pk_sub_toInt hx hy
  rw [Int32.lt_iff_toInt_lt, e, Int32.toInt_zero] at h
  omega
theorem sub_ge9 {x y : Nat} (hx : x < 2 ^ 30) (hy : y < 2 ^ 30) (h : ¬ nI x - nI y < 0) : y ≤ x := by
  have e := pk_sub_toInt hx hy
  rw [Int32.lt_iff_toInt_lt, e, Int32.toInt_zero] at h
  omega
theorem bst_go {σ : Nat → Nat} {m h i : Nat} (h1 : msg σ i = true) (h2 : dg σ i 3 ≤ h) : bst σ m h (i + 1) = if bst σ m h i = NN then i else if unl σ i m < unl σ (bst σ m h i) m ∨ (unl σ i m = unl σ (bst σ m h i) m ∧ dg σ (bst σ m h i) 4 < dg σ i 4) then i else bst σ m h i := if_pos (by simp [h1, h2])
theorem bst_no {σ : Nat → Nat} {m h i : Nat} (h1 : msg σ i = false ∨ ¬ dg σ i 3 ≤ h) : bst σ m h (i + 1) = bst σ m h i := if_neg (by rcases h1 with h1 | h1 <;> simp [h1])
theorem ineg9 (x : Int32) : -x = 0 - x := by
  apply Int32.toBitVec_inj.mp
  show -x.toBitVec = 0#32 - x.toBitVec
  rw [BitVec.zero_sub]
theorem al_s9 {p : Nat → Bool} {n : Nat} : al p (n + 1) = (al p n && p n) := rfl
theorem al_cut {p : Nat → Bool} {i : Nat} (h : al p i = false) : ∀ {n}, i ≤ n → al p n = false := by
  intro n hn
  apply Classical.byContradiction
  intro q
  have q2 : al p n = true := by simpa using q
  have : al p i = true := al_iff.mpr (fun j hj => al_iff.mp q2 j (by omega))
  rw [h] at this
  cases this
theorem al_no {σ : Nat → Nat} {d c i : Nat} (h : (rch σ (dg σ d 2) c (dg σ d 1 * (σ 2 - dg σ d 3)) && al (fun s => !hon σ d s || rch σ (sg σ s 1) c (dg σ d 1 * (σ 2 - sg σ s 2))) i) = false) (hi : i ≤ σ 1 := by omega) : (rch σ (dg σ d 2) c (dg σ d 1 * (σ 2 - dg σ d 3)) && al (fun s => !hon σ d s || rch σ (sg σ s 1) c (dg σ d 1 * (σ 2 - sg σ s 2))) i) = cbe σ d c := by
  rw [h]
  unfold cbe
  by_cases q : rch σ (dg σ d 2) c (dg σ d 1 * (σ 2 - dg σ d 3)) = true
  · rw [q, Bool.true_and] at h
    rw [q, al_cut h hi]
    rfl
  · rw [show rch σ (dg σ d 2) c (dg σ d 1 * (σ 2 - dg σ d 3)) = false by simpa using q]
    rfl
