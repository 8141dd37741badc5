/-! THE REFERENCE: what a text's command does, as the class's. -/
theorem in_t {v lo hi : Nat} (h1 : lo ≤ v) (h2 : v ≤ hi) (h3 : hi < 2 ^ 31) : inR (nI v) (nI lo) (nI hi) = true := by
  rw [inR_n (by omega) (by omega) h3, decide_eq_true h1, decide_eq_true h2]
  rfl
theorem in_9 {v : Nat} (h : v < 2 ^ 31) : inR (nI v) (nI 0) (nI 9) = decide (v ≤ 9) := by
  rw [inR_n h (by decide) (by decide), decide_eq_true (Nat.zero_le v)]
  rfl
theorem nn2_ne {v : Nat} (h : v < 2 ^ 31) : ¬ nI v = nI NN2 := by
  intro e
  have e2 := congrArg Int32.toInt e
  rw [nI_toInt h, show (nI NN2).toInt = -2 by decide] at e2
  omega
theorem nn2_mea {σ : Nat → Nat} {m h : Nat} (hn : σ 0 ≤ 6) : ¬ nI (mea σ m h) = nI NN2 := by
  rcases mea_lt (σ := σ) (m := m) (h := h) with e | e
  · rw [e]; decide
  · exact nn2_ne (by omega)
theorem mea_ge {σ : Nat → Nat} {m h : Nat} (hn : σ 0 ≤ 6) : ¬ nI (mea σ m h) < nI NN := by
  rcases mea_lt (σ := σ) (m := m) (h := h) with e | e
  · rw [e]; decide
  · rw [Int32.lt_iff_toInt_lt, nI_toInt (by omega), show (nI NN).toInt = -1 by decide]
    omega
theorem gro_le {σ : Nat → Nat} {n d : Nat} (hn : n ≤ 99) (h6 : σ 6 ≤ 50) : gro σ n d ≤ 300 := by
  unfold gro
  split
  · have h1 : (σ 2 - dg σ d 3 + n) / 24 - (σ 2 - dg σ d 3) / 24 ≤ 6 := by omega
    exact Nat.le_trans (Nat.mul_le_mul h1 h6) (by decide)
  · omega
theorem hoA_lt {σ : Nat → Nat} {bd n : Nat} (h : WF bd σ) (hn : n ≤ 99) : sm (gro σ n) (σ 0) < 2 ^ 31 := by
  have q := sm_le (σ 0) (f := gro σ n) (c := 300) (fun i _ => gro_le hn h.2.2.2.2.1)
  have h0 := h.n0
  have : σ 0 * 300 ≤ 6 * 300 := Nat.mul_le_mul_right _ h0
  omega
def pf1 (a : Nat) : Nat → Nat := up z9 0 a
def pf3 (a b c : Nat) : Nat → Nat := up (up (up z9 0 a) 1 b) 2 c
def pf4 (a b c d : Nat) : Nat → Nat := up (up (up (up z9 0 a) 1 b) 2 c) 3 d
theorem pf3_v {a b c : Nat} : pf3 a b c 0 = a ∧ pf3 a b c 1 = b ∧ pf3 a b c 2 = c := by simp [pf3, up]
theorem pf4_v {a b c d : Nat} : pf4 a b c d 0 = a ∧ pf4 a b c d 1 = b ∧ pf4 a b c d 2 = c ∧ pf4 a b c d 3 = d := by simp [pf4, up]
theorem ml_lose {σ : Nat → Nat} {a b c d : Nat} (ha : 1 ≤ a ∧ a ≤ 255) (hb : 1 ≤ b ∧ b ≤ 3) (hc : 0 ≤ c ∧ c ≤ 11) (hd : 1 ≤ d ∧ d ≤ 500) :
    (σ 0 < 6 → doR 100 (pf4 a b c d) σ = loseS σ a b c d ∧ ¬ nI (doA 100 (pf4 a b c d) σ) = nI NN2) ∧ (6 ≤ σ 0 → doR 100 (pf4 a b c d) σ = σ ∧ nI (doA 100 (pf4 a b c d) σ) = nI NN2) := by
  obtain ⟨e1, e2, e3, e4⟩ := pf4_v (a := a) (b := b) (c := c) (d := d)
  have e : doR 100 (pf4 a b c d) σ = loseR σ (nI a) (nI b) (nI c) (nI d) := by unfold doR; rw [if_pos rfl, e1, e2, e3, e4]
  have e' : doA 100 (pf4 a b c d) σ = if fLose σ (nI a) (nI b) (nI c) (nI d) = 0 then σ 0 else NN2 := by unfold doA; rw [if_pos rfl, e1, e2, e3, e4]
  have f : fLose σ (nI a) (nI b) (nI c) (nI d) = if 6 ≤ σ 0 then 3 else 0 := by
    unfold fLose
    rw [in_t hc.1 hc.2 (by decide), in_t ha.1 ha.2 (by decide), in_t hb.1 hb.2 (by decide), in_t hd.1 hd.2 (by decide)]
    rfl
  rw [e, e']
  refine ⟨fun h => ?_, fun h => ?_⟩
  · rw [if_neg (by omega)] at f
    rw [if_pos f]
    exact ⟨loseR_0 ha.2 hb.2 (by omega) hd.2 f, nn2_ne (by omega)⟩
  · rw [if_pos h] at f
    rw [if_neg (by omega)]
    exact ⟨if_neg (by omega), rfl⟩
theorem ml_sight {σ : Nat → Nat} {a b c d : Nat} (hn : σ 0 ≤ 6) (h2 : σ 2 ≤ 100000) (ha : 0 ≤ a ∧ a ≤ 7) (hb : 0 ≤ b ∧ b ≤ 11) (hc : 0 ≤ c ∧ c ≤ 255) (hd : d ≤ 1) :
    (σ 1 < 20 → doR 115 (pf4 a b c d) σ = sightS σ a b c 0 (if decide (d = 1) = true then 1 else 0) ∧ ¬ nI (doA 115 (pf4 a b c d) σ) = nI NN2) ∧ (20 ≤ σ 1 → doR 115 (pf4 a b c d) σ = σ ∧ nI (doA 115 (pf4 a b c d) σ) = nI NN2) := by
  obtain ⟨e1, e2, e3, e4⟩ := pf4_v (a := a) (b := b) (c := c) (d := d)
  have ed : decide (nI d = nI 1) = decide (d = 1) := by
    rcases (show d = 0 ∨ d = 1 by omega) with rfl | rfl <;> decide
  have e : doR 115 (pf4 a b c d) σ = sightR σ (nI a) (nI b) (nI c) (nI 0) (decide (d = 1)) := by
    unfold doR; rw [if_neg (by decide), if_neg (by decide), if_neg (by decide), if_pos rfl, e1, e2, e3, e4, ed]
  have e' : doA 115 (pf4 a b c d) σ = sightA σ (nI a) (nI b) (nI c) (nI 0) := by
    unfold doA; rw [if_neg (by decide), if_neg (by decide), if_neg (by decide), if_pos rfl, e1, e2, e3]
  have f : fTell σ (nI a) (nI b) (nI c) (nI 0) = if 20 ≤ σ 1 then 3 else 0 := by
    have q0 : ¬ nI (σ 2) < nI 0 := by rw [nI_ltI (by omega) (by decide)]; omega
    unfold fTell
    rw [in_t ha.1 ha.2 (by decide), in_t hb.1 hb.2 (by decide), in_t hc.1 hc.2 (by decide), in_t (v := 0) (Nat.le_refl _) (by decide) (by decide), decide_eq_false q0]
    rfl
  rw [e, e']
  refine ⟨fun h => ?_, fun h => ?_⟩
  · rw [if_neg (by omega)] at f
    obtain ⟨g1, g2⟩ := sightR_0 (ph := decide (d = 1)) (by omega) (by omega) hc.2 (by decide) f
    rw [g1, g2]
    exact ⟨rfl, nn2_mea hn⟩
  · rw [if_pos h] at f
    exact ⟨if_neg (by omega), congrArg nI (show sightA σ (nI a) (nI b) (nI c) (nI 0) = NN2 from if_neg (by omega))⟩
theorem ml_find {σ : Nat → Nat} {bd a b c : Nat} (hw : WF bd σ) (ha : 0 ≤ a ∧ a ≤ 5) (hb : 0 ≤ b ∧ b ≤ 7) (hc : 0 ≤ c ∧ c ≤ 11) :
    (a < σ 0 → msg σ a = true → doR 102 (pf3 a b c) σ = findS σ a b c ∧ ¬ nI (doA 102 (pf3 a b c) σ) = nI NN2) ∧ (¬ a < σ 0 ∨ msg σ a = false → doR 102 (pf3 a b c) σ = σ ∧ nI (doA 102 (pf3 a b c) σ) = nI NN2) := by
  have hn := hw.n0
  obtain ⟨e1, e2, e3⟩ := pf3_v (a := a) (b := b) (c := c)
  have e : doR 102 (pf3 a b c) σ = findR σ (nI a) (nI b) (nI c) := by
    unfold doR; rw [if_neg (by decide), if_pos rfl, e1, e2, e3]
  have e' : doA 102 (pf3 a b c) σ = findA σ (nI a) (nI b) (nI c) := by
    unfold doA; rw [if_neg (by decide), if_pos rfl, e1, e2, e3]
  have f : fFind σ (nI a) (nI b) (nI c) = fAsk σ (nI a) := by
    unfold fFind
    rw [in_t hb.1 hb.2 (by decide), in_t hc.1 hc.2 (by decide)]
    rfl
  have f2 : fAsk σ (nI a) = if a < σ 0 then (if msg σ a = true then 0 else 3) else 1 := by
    unfold fAsk
    rw [hasR_n (by omega) (by omega), nI_clamp (by omega)]
    simp only [decide_eq_true_eq]
  rw [e, e']
  refine ⟨fun h hm => ?_, fun h => ?_⟩
  · have f3 : fFind σ (nI a) (nI b) (nI c) = 0 := by rw [f, f2, if_pos h, if_pos hm]
    obtain ⟨g1, g2⟩ := findR_0 (by omega) (by omega) (by omega) f3
    rw [g1, g2]
    refine ⟨rfl, nn2_ne ?_⟩
    have q := shr_le (d := a) (c := c) (k := b + 1) hw (show b < 8 by omega) (by omega)
    have q2 := (hw.db h).2.2.2.2.2.1
    have q3 : sm (shr σ a b c) (b + 1) = sm (shr σ a b c) b + shr σ a b c b := rfl
    omega
  · have f3 : fFind σ (nI a) (nI b) (nI c) ≠ 0 := by
      rw [f, f2]
      rcases h with h | h
      · rw [if_neg h]; decide
      · split
        · rw [h]; decide
        · decide
    exact ⟨if_neg f3, congrArg nI (show findA σ (nI a) (nI b) (nI c) = NN2 from if_neg f3)⟩
theorem fClose_n {a b : Nat} (ha : a ≤ 11) (hb : b ≤ 11) : fClose (nI a) (nI b) = if sbt a b 17 = NN then 2 else 0 := by
  unfold fClose
  rw [in_t (Nat.zero_le _) ha (by decide), in_t (Nat.zero_le _) hb (by decide), nI_clamp (by omega), nI_clamp (by omega)]
  rfl
theorem ct_small {σ : Nat → Nat} : ct (cmk σ).testBit 24 < 2 ^ 31 := by
  have := ct_le (cmk σ).testBit 24
  omega
theorem close_a {σ : Nat → Nat} {a b : Nat} {on : Bool} (ha : a ≤ 11) (hb : b ≤ 11) :
    (stp a b ≠ NN → ∃ k9, k9 < 17 ∧ spl k9 = stp a b ∧ closeR σ (nI a) (nI b) on = clS σ k9 on ∧ ¬ nI (closeA σ (nI a) (nI b) on) = nI NN2) ∧ (stp a b = NN → closeR σ (nI a) (nI b) on = σ ∧ nI (closeA σ (nI a) (nI b) on) = nI NN2) := by
  have f := fClose_n ha hb
  refine ⟨fun h => ?_, fun h => ?_⟩
  · have h2 : sbt a b 17 ≠ NN := fun q => h ((sbt_NN (by omega) (by omega)).mp q)
    rw [if_neg h2] at f
    obtain ⟨a9, b9, e1, e2, g1, g2, g3⟩ := fClose_0 f
    have i1 : a = a9 := by have := congrArg Int32.toNatClampNeg e1; rwa [nI_clamp (by omega), nI_clamp (by omega)] at this
    have i2 : b = b9 := by have := congrArg Int32.toNatClampNeg e2; rwa [nI_clamp (by omega), nI_clamp (by omega)] at this
    subst i1
    subst i2
    refine ⟨sbt a b 17, g3, (fClose_k g1 g2 g3).1, ?_, ?_⟩
    · unfold closeR
      rw [if_pos f, nI_clamp (by omega), nI_clamp (by omega)]
    · unfold closeA
      rw [if_pos f]
      exact nn2_ne ct_small
  · have h2 : sbt a b 17 = NN := (sbt_NN (by omega) (by omega)).mpr h
    rw [if_pos h2] at f
    exact ⟨if_neg (by omega), congrArg nI (show closeA σ (nI a) (nI b) on = NN2 from if_neg (by omega))⟩
theorem ml_close {σ : Nat → Nat} {a b c : Nat} (ha : 0 ≤ a ∧ a ≤ 11) (hb : 0 ≤ b ∧ b ≤ 11) (hc : c ≤ 1) :
    (stp a b ≠ NN → ∃ k9, k9 < 17 ∧ spl k9 = stp a b ∧ doR 120 (pf3 a b c) σ = clS σ k9 (decide (c = 1)) ∧ ¬ nI (doA 120 (pf3 a b c) σ) = nI NN2) ∧ (stp a b = NN → doR 120 (pf3 a b c) σ = σ ∧ nI (doA 120 (pf3 a b c) σ) = nI NN2) := by
  obtain ⟨e1, e2, e3⟩ := pf3_v (a := a) (b := b) (c := c)
  have ed : decide (nI c = nI 1) = decide (c = 1) := by
    rcases (show c = 0 ∨ c = 1 by omega) with rfl | rfl <;> decide
  have e : doR 120 (pf3 a b c) σ = closeR σ (nI a) (nI b) (decide (c = 1)) := by
    unfold doR; rw [if_neg (by decide), if_neg (by decide), if_neg (by decide), if_neg (by decide), if_pos rfl, e1, e2, e3, ed]
  have e' : doA 120 (pf3 a b c) σ = closeA σ (nI a) (nI b) (decide (c = 1)) := by
    unfold doA; rw [if_neg (by decide), if_neg (by decide), if_neg (by decide), if_neg (by decide), if_pos rfl, e1, e2, e3, ed]
  rw [e, e']
  exact close_a ha.2 hb.2
theorem ml_hours {σ : Nat → Nat} {bd a : Nat} (hw : WF bd σ) (ha : 1 ≤ a ∧ a ≤ 99) : doR 104 (pf1 a) σ = hoS σ a ∧ ¬ nI (doA 104 (pf1 a) σ) = nI NN2 := by
  have e1 : pf1 a 0 = a := up_s
  have f : fPass (nI a) = 0 := by unfold fPass; rw [in_t ha.1 ha.2 (by decide)]; rfl
  have e : doR 104 (pf1 a) σ = hoursR σ (nI a) := by
    unfold doR; rw [if_neg (by decide), if_neg (by decide), if_pos rfl, e1]
  have e' : doA 104 (pf1 a) σ = hoursA σ (nI a) := by
    unfold doA; rw [if_neg (by decide), if_neg (by decide), if_pos rfl, e1]
  rw [e, e']
  unfold hoursR hoursA
  rw [if_pos f, if_pos f, nI_clamp (by omega)]
  exact ⟨rfl, nn2_ne (hoA_lt hw ha.2)⟩
