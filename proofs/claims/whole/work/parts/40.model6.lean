/-! THE REFERENCE'S ACTIONS: not refused; watch. -/
theorem fIff_0 {σ : Nat → Nat} {vd vf vc vo : Int32} (hn : σ 0 ≤ 6) (h : fIff σ vd vf vc vo = 0) : ∃ d f c o : Nat, (vd = nI d ∧ vf = nI f ∧ vc = nI c ∧ vo = nI o) ∧ d < σ 0 ∧ msg σ d = true ∧ f < 8 ∧ c < 12 ∧ o < 8 := by
  unfold fIff at h
  by_cases q : inR vo (nI 0) (nI 7) = true
  · rw [if_pos q] at h
    obtain ⟨o, _, h2, e⟩ := inR_ex (by decide) (by decide) q
    obtain ⟨d, f, c, ⟨e1, e2, e3⟩, g1, g2, g3, g4⟩ := fFind_0 hn h
    exact ⟨d, f, c, o, ⟨e1, e2, e3, e⟩, g1, g2, g3, g4, by omega⟩
  · rw [if_neg q] at h; omega
theorem fSlo_0 {vs : Int32} (h : fSlo vs = 0) : ∃ j : Nat, j < 2 ∧ vs = nI j := by
  unfold fSlo at h
  by_cases q : hasR 2 vs = true
  · exact hasR_ex (by decide) q
  · rw [if_neg q] at h; omega
theorem fRes_0 {fl : Nat → Bool} {vs : Int32} (h : fRes fl vs = 0) : ∃ j : Nat, j < 2 ∧ vs = nI j ∧ fl j = true := by
  unfold fRes at h
  by_cases q : hasR 2 vs = true
  · rw [if_pos q] at h
    obtain ⟨j, hj, rfl⟩ := hasR_ex (by decide) q
    rw [nI_clamp (by omega)] at h
    refine ⟨j, hj, rfl, ?_⟩
    by_cases q2 : fl j = true
    · exact q2
    · rw [if_neg q2] at h; omega
  · rw [if_neg q] at h; omega
theorem fClose_k {a b : Nat} (ha : a < 12) (hb : b < 12) (h : sbt a b 17 < 17) : spl (sbt a b 17) = stp a b ∧ stp a b ≠ NN := by
  rcases sbt_stp a ha b hb with e | e
  · rw [e.2] at h
    exact absurd h (by decide)
  · exact ⟨e.2.2, e.1⟩
/-- a street, or none: as the class and the reference ask -/
theorem sbt_NN {a b : Nat} (ha : a < 12) (hb : b < 12) : sbt a b 17 = NN ↔ stp a b = NN := by
  rcases sbt_stp a ha b hb with e | e
  · exact ⟨fun _ => e.1, fun _ => e.2⟩
  · exact ⟨fun q => absurd e.2.1 (by rw [q]; decide), fun q => absurd q e.1⟩
-- watch
def wth (σ : Nat → Nat) (c : Nat) : Nat := 10000000 * cA σ c + rA σ c
theorem wbt_w {σ : Nat → Nat} {bd c b : Nat} (h : WF bd σ) : wbt σ c b = decide (wth σ b < wth σ c) := by
  have r1 := rA_le (c := c) h
  have r2 := rA_le (c := b) h
  unfold wbt wth
  rw [Bool.eq_iff_iff]
  simp only [Bool.or_eq_true, Bool.and_eq_true, decide_eq_true_eq]
  omega
def wtW (σ : Nat → Nat) (c n : Nat) : Nat := sm (fun d => if (plc σ d).testBit c then 10000000 + dg σ d 4 else 0) n
theorem plc_bit {σ : Nat → Nat} {d c : Nat} (hd : d < σ 0) (hc : c < 12) : (plc σ d).testBit c = (msg σ d && cbe σ d c) := by
  unfold plc
  by_cases q : msg σ d = true
  · rw [if_pos (by simp [hd, q]), mk_bit]
    simp [hc, q]
  · rw [if_neg (by simp [q])]
    simp [q]
theorem wtW_n {σ : Nat → Nat} {c : Nat} (hn : σ 0 ≤ 6) : wtW σ c (σ 0) = wth σ c := by
  have e1 : wtW σ c 6 = wth σ c := by
    unfold wtW wth cA rA
    rw [ct_sm, show 10000000 * sm (fun i => if (plc σ i).testBit c = true then 1 else 0) 6 = sm (fun i => 10000000 * if (plc σ i).testBit c = true then 1 else 0) 6 by simp only [sm]; omega, ← sm_add]
    exact sm_congr 6 (fun d _ => by split <;> rfl)
  have e2 : ∀ k, σ 0 + k ≤ 6 → wtW σ c (σ 0 + k) = wtW σ c (σ 0) := by
    intro k
    induction k with
    | zero => intro _; rfl
    | succ k ih =>
      intro hk
      have z : (plc σ (σ 0 + k)).testBit c ≠ true := fun q => by
        have := plc_in q
        omega
      show wtW σ c (σ 0 + k) + (if (plc σ (σ 0 + k)).testBit c then 10000000 + dg σ (σ 0 + k) 4 else 0) = _
      rw [ih (by omega), if_neg z]
      rfl
  rw [← e1, ← e2 (6 - σ 0) (by omega), show σ 0 + (6 - σ 0) = 6 by omega]
theorem wtW_le {σ : Nat → Nat} {bd c n : Nat} (h : WF bd σ) (hn : n ≤ 6) : wtW σ c n ≤ 6 * 10210000 := by
  have q : wtW σ c n ≤ n * 10210000 := sm_le n (fun d hd => by
    split
    · rename_i z
      have := (h.db (plc_in z)).2.2.2.2.2.1
      omega
    · omega)
  exact Nat.le_trans q (Nat.mul_le_mul_right _ hn)
/-- the best corner of the first c -/
def wtB (σ : Nat → Nat) : Nat → Nat
  | 0 => NN
  | c + 1 => wtb σ c
def wtM (σ : Nat → Nat) : Nat → Int32
  | 0 => -1
  | c + 1 => nI (wth σ (wtb σ c))
theorem wtB_s {σ : Nat → Nat} {bd c : Nat} (h : WF bd σ) (hw : ∀ k, wth σ k < 2 ^ 31) : (wtM σ c < nI (wth σ c) → wtB σ (c + 1) = c ∧ wtM σ (c + 1) = nI (wth σ c)) ∧ (¬ wtM σ c < nI (wth σ c) → wtB σ (c + 1) = wtB σ c ∧ wtM σ (c + 1) = wtM σ c) := by
  cases c with
  | zero =>
    refine ⟨fun _ => ⟨rfl, rfl⟩, fun q => absurd ?_ q⟩
    show (-1 : Int32) < nI (wth σ 0)
    rw [Int32.lt_iff_toInt_lt, nI_toInt (hw 0)]
    exact Int.lt_of_lt_of_le (by decide) (Int.natCast_nonneg _)
  | succ c =>
    show (nI (wth σ (wtb σ c)) < nI (wth σ (c + 1)) → wtb σ (c + 1) = c + 1 ∧ nI (wth σ (wtb σ (c + 1))) = _) ∧ (¬ nI (wth σ (wtb σ c)) < nI (wth σ (c + 1)) → wtb σ (c + 1) = wtb σ c ∧ nI (wth σ (wtb σ (c + 1))) = nI (wth σ (wtb σ c)))
    have e : wtb σ (c + 1) = if wbt σ (c + 1) (wtb σ c) then c + 1 else wtb σ c := rfl
    rw [e, wbt_w h, nI_ltI (hw _) (hw _)]
    refine ⟨fun q => ?_, fun q => ?_⟩
    · rw [if_pos (decide_eq_true q)]; exact ⟨rfl, rfl⟩
    · rw [if_neg (by rw [decide_eq_false q]; decide)]; exact ⟨rfl, rfl⟩
theorem cp_st {dy σ : Nat → Nat} {τ : Nat → Nat} {k j : Nat} (h : ∀ j, j < 248 → dy (248 * k + j) = τ j) (hj : j < 248) : mS (cpS dy σ (248 * k) 0 248) j = mS τ j := by
  show nI _ = nI _
  rw [show cpS dy σ (248 * k) 0 248 j = dy (248 * k + j) from by have := cpS_in (f := dy) (t := σ) (fa := 248 * k) (ta := 0) hj; rw [Nat.zero_add] at this; exact this, h j hj]
theorem sv_kp {σ kp : Nat → Nat} {K : Nat → Nat → Nat} {fl : Nat → Bool} {j9 : Nat} (hj9 : j9 < 2) (h : ∀ k, k < 2 → fl k = true → ∀ j, j < 248 → kp (248 * k + j) = K k j) : ∀ k, k < 2 → sv2 fl j9 true k = true → ∀ j, j < 248 → cpS σ kp 0 (248 * j9) 248 (248 * k + j) = sv2 K j9 σ k j := by
  intro k hk hf j hj
  unfold sv2 at hf ⊢
  by_cases e : k = j9
  · subst e
    rw [if_pos rfl, cpS_in hj, Nat.zero_add]
  · rw [if_neg e] at hf ⊢
    rw [cpS_out (by omega)]
    exact h k hk hf j hj
