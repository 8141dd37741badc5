/-! THE REFERENCE'S OBJECT: its cells, what holds between calls; refusals. -/
/-- what its cells hold that no call shows: the trial row, the diary, the kept rows, ways, help, the reader's place, left out, the refusal -/
abbrev Mc : Type := (Nat → Nat) × (Nat → Nat) × (Nat → Nat) × (Nat → Nat) × (Nat → Nat) × Nat × Nat × Nat
def mW (cy : Nat → ClassId) (ma : Nat → Nat) (tr dy kp wy hp : Nat → Nat) (sp ou rf : Nat) (σ : Nat → Nat) (n : Nat) (fl : Nat → Bool) (tx : Nat → Nat) (ln : Nat) : va_W :=
  [(ma 0, .inr (6, [.int (nI rf), .ref (ma 1), .int (nI ln), .ref (ma 2), .ref (ma 3), .ref (ma 4), .int (nI n), .ref (ma 5), .ref (ma 6), .ref (ma 7), .ref (ma 8), .int (nI sp), .int (nI ou)])), aI cy (ma 1) 120 (mS tx), aI cy (ma 2) 248 (mS σ), aI cy (ma 3) 248 (mS tr), aI cy (ma 4) 3472 (mS dy), aI cy (ma 5) 496 (mS kp), aZ cy (ma 6) 2 (fun j => bI (fl j)), aI cy (ma 7) 144 (mS wy), aI cy (ma 8) 8 (mS hp)]
def mQ (cy : Nat → ClassId) (ma : Nat → Nat) (q : Mc) (σ : Nat → Nat) (n : Nat) (fl : Nat → Bool) (tx : Nat → Nat) (ln : Nat) : va_W := mW cy ma q.1 q.2.1 q.2.2.1 q.2.2.2.1 q.2.2.2.2.1 q.2.2.2.2.2.1 q.2.2.2.2.2.2.1 q.2.2.2.2.2.2.2 σ n fl tx ln
def mI (bd : Nat) (q : Mc) (σ : Nat → Nat) (Hh : Nat → Nat → Nat) (n : Nat) (K : Nat → Nat → Nat) (fl : Nat → Bool) (tx : Nat → Nat) (ln : Nat) : Prop :=
  WF bd σ ∧ n ≤ 14 ∧ (∀ k, k < n → ∀ j, j < 248 → q.2.1 (248 * k + j) = Hh k j) ∧ (∀ k, k < 2 → fl k = true → ∀ j, j < 248 → q.2.2.1 (248 * k + j) = K k j) ∧ (∀ i, tx i < 256) ∧ ln ≤ 120
/-- an exception's number among those that a method lists -/
def rkm (a b c f : Nat) : Nat := if f = 1 then a else if f = 2 then b else if f = 3 then c else 0
theorem rkm_0 {a b c : Nat} : rkm a b c 0 = 0 := rfl
def shI (w : Nat → Nat) (i : Nat) : Nat → Nat := fun j => if j < i then w (j + 248) else w j
theorem shI_0 {w : Nat → Nat} : shI w 0 = w := by
  funext j
  simp [shI]
theorem shI_s {w : Nat → Nat} {i : Nat} : up (shI w i) i (shI w i (i + 248)) = shI w (i + 1) := by
  funext j
  by_cases h : j = i
  · subst h
    rw [up_s]
    unfold shI
    rw [if_neg (by omega), if_pos (by omega)]
  · rw [up_n h]
    unfold shI
    have h2 : j < i + 1 ↔ j < i := by omega
    simp only [h2]
/-- the diary behind one more state -/
def remD (σ dy : Nat → Nat) (n : Nat) : Nat → Nat := if n = 14 then cpS σ (shI dy 3224) 0 (248 * 13) 248 else cpS σ dy 0 (248 * n) 248
theorem cpS_in {f t : Nat → Nat} {fa ta j : Nat} (h : j < 248) : cpS f t fa ta 248 (ta + j) = f (fa + j) := by
  unfold cpS
  rw [if_pos (by omega), Nat.add_sub_cancel_left]
theorem cpS_out {f t : Nat → Nat} {fa ta j : Nat} (h : j < ta ∨ ta + 248 ≤ j) : cpS f t fa ta 248 j = t j := by
  unfold cpS
  rw [if_neg (by omega)]
theorem rem_dy {σ dy : Nat → Nat} {Hh : Nat → Nat → Nat} {n : Nat} (hn : n ≤ 14) (h : ∀ k, k < n → ∀ j, j < 248 → dy (248 * k + j) = Hh k j) : ∀ k, k < hiN n → ∀ j, j < 248 → remD σ dy n (248 * k + j) = hiH Hh n σ k j := by
  intro k hk j hj
  unfold hiN at hk
  unfold remD hiH
  by_cases h14 : n < 14
  · rw [if_pos h14] at hk
    rw [if_neg (by omega), if_pos h14]
    by_cases e : k = n
    · subst e
      rw [if_pos rfl, cpS_in hj, Nat.zero_add]
    · rw [if_neg e, cpS_out (by omega)]
      exact h k (by omega) j hj
  · rw [if_neg h14] at hk
    rw [if_pos (by omega), if_neg h14]
    by_cases e : k = 13
    · subst e
      rw [if_pos rfl, cpS_in hj, Nat.zero_add]
    · rw [if_neg e, cpS_out (by omega)]
      unfold shI
      rw [if_pos (by omega), show 248 * k + j + 248 = 248 * (k + 1) + j by omega]
      exact h (k + 1) (by omega) j hj
theorem rem_n {n : Nat} (h : n ≤ 14) : hiN n ≤ 14 := by
  unfold hiN
  split <;> omega
/-! what isn't refused -/
theorem fApp_0 {vc : Int32} {ln : Nat} (h : fApp vc ln = 0) : inR vc (nI 0) (nI 255) = true ∧ ln < 120 := by
  unfold fApp at h
  by_cases q : inR vc (nI 0) (nI 255) = true
  · rw [if_pos q] at h
    refine ⟨q, ?_⟩
    by_cases q2 : 120 ≤ ln
    · rw [if_pos q2] at h; omega
    · omega
  · rw [if_neg q] at h; omega
theorem fAbo_0 {v : Int32} (h : fAbo v = 0) : ∃ j : Nat, j ≤ 10 ∧ v = nI j := by
  unfold fAbo at h
  by_cases q : inR v (nI 0) (nI 10) = true
  · obtain ⟨j, _, h2, e⟩ := inR_ex (by decide) (by decide) q
    exact ⟨j, h2, e⟩
  · rw [if_neg q] at h; omega
theorem fMea_0 {v : Int32} (h : fMea v = 0) : ∃ j : Nat, j ≤ 255 ∧ v = nI j := by
  unfold fMea at h
  by_cases q : inR v (nI 0) (nI 255) = true
  · obtain ⟨j, _, h2, e⟩ := inR_ex (by decide) (by decide) q
    exact ⟨j, h2, e⟩
  · rw [if_neg q] at h; omega
theorem fPur_0 {v : Int32} (h : fPur v = 0) : ∃ j : Nat, j ≤ 7 ∧ v = nI j := by
  unfold fPur at h
  by_cases q : inR v (nI 0) (nI 7) = true
  · obtain ⟨j, _, h2, e⟩ := inR_ex (by decide) (by decide) q
    exact ⟨j, h2, e⟩
  · rw [if_neg q] at h; omega
theorem fDog_0 {σ : Nat → Nat} {vd vw : Int32} (hn : σ 0 ≤ 6) (h : fDog σ vd vw = 0) : ∃ d w : Nat, vd = nI d ∧ vw = nI w ∧ d < σ 0 ∧ w ≤ 10 := by
  unfold fDog at h
  by_cases q : hasR (σ 0) vd = true
  · rw [if_pos q] at h
    by_cases q2 : inR vw (nI 0) (nI 10) = true
    · obtain ⟨d, hd, e⟩ := hasR_ex (by omega) q
      obtain ⟨w, _, hw, e2⟩ := inR_ex (by decide) (by decide) q2
      exact ⟨d, w, e, e2, hd, hw⟩
    · rw [if_neg q2] at h; omega
  · rw [if_neg q] at h; omega
theorem fSig_0 {σ : Nat → Nat} {vs vw : Int32} (hn : σ 1 ≤ 20) (h : fSig σ vs vw = 0) : ∃ s w : Nat, vs = nI s ∧ vw = nI w ∧ s < σ 1 ∧ w ≤ 8 := by
  unfold fSig at h
  by_cases q : hasR (σ 1) vs = true
  · rw [if_pos q] at h
    by_cases q2 : inR vw (nI 0) (nI 8) = true
    · obtain ⟨d, hd, e⟩ := hasR_ex (by omega) q
      obtain ⟨w, _, hw, e2⟩ := inR_ex (by decide) (by decide) q2
      exact ⟨d, w, e, e2, hd, hw⟩
    · rw [if_neg q2] at h; omega
  · rw [if_neg q] at h; omega
theorem fApa_0 {va vb vw : Int32} (h : fApa va vb vw = 0) : ∃ a b : Nat, va = nI a ∧ vb = nI b ∧ a < 12 ∧ b < 12 := by
  unfold fApa at h
  by_cases q : (inR va (nI 0) (nI 11) && inR vb (nI 0) (nI 11)) = true
  · simp only [Bool.and_eq_true] at q
    obtain ⟨a, _, h2, e⟩ := inR_ex (by decide) (by decide) q.1
    obtain ⟨b, _, h3, e2⟩ := inR_ex (by decide) (by decide) q.2
    exact ⟨a, b, e, e2, by omega, by omega⟩
  · rw [if_neg q] at h; omega
