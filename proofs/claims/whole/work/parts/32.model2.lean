/-! THE REFERENCE, WRITTEN: what its methods do to a state's row. -/
def cpS (f t : Nat → Nat) (fa ta i : Nat) : Nat → Nat := fun j => if ta ≤ j ∧ j < ta + i then f (fa + (j - ta)) else t j
theorem cpS_0 {f t : Nat → Nat} {fa ta : Nat} : cpS f t fa ta 0 = t := by
  funext j
  unfold cpS
  rw [if_neg (by omega)]
theorem cpS_s {f t : Nat → Nat} {fa ta i : Nat} : up (cpS f t fa ta i) (ta + i) (f (fa + i)) = cpS f t fa ta (i + 1) := by
  funext j
  by_cases h : j = ta + i
  · subst h
    rw [up_s]
    unfold cpS
    rw [if_pos (by omega), Nat.add_sub_cancel_left]
  · rw [up_n h]
    unfold cpS
    have h2 : (ta ≤ j ∧ j < ta + (i + 1)) ↔ (ta ≤ j ∧ j < ta + i) := by omega
    simp only [h2]
def clI (w : Nat → Nat) (i : Nat) : Nat → Nat := fun j => if j < i then 0 else w j
theorem clI_0 {w : Nat → Nat} : clI w 0 = w := by
  funext j
  simp [clI]
theorem clI_s {w : Nat → Nat} {i : Nat} : up (clI w i) i 0 = clI w (i + 1) := by
  funext j
  by_cases h : j = i
  · subst h
    simp [up, clI]
  · have h2 : j < i + 1 ↔ j < i := by omega
    simp [up, clI, h, h2]
theorem clI_new {w : Nat → Nat} {j : Nat} (h : j < 248) : mS (up (up (clI w 248) 6 5) 7 2) j = mS newS j := by
  show nI _ = nI _
  apply congrArg
  unfold newS
  by_cases e7 : j = 7
  · subst e7; rfl
  · rw [up_n e7]
    by_cases e6 : j = 6
    · subst e6; rfl
    · rw [up_n e6, if_neg e6, if_neg e7]
      exact if_pos h
theorem fwB_v {σ w : Nat → Nat} {i v : Nat} (h : fw0 σ i = v) : up (fwB σ w i) i v = fwB σ w (i + 1) := by
  subst h
  exact fwB_s
theorem fwV_v {σ : Nat → Nat} {m k v : Nat} (h : (if fwV σ m k (12 * (k / 12) + m) + fwV σ m k (12 * m + k % 12) < fwV σ m k k then fwV σ m k (12 * (k / 12) + m) + fwV σ m k (12 * m + k % 12) else fwV σ m k k) = v) : up (fwV σ m k) k v = fwV σ m (k + 1) := by
  subst h
  rfl
theorem stp_ok : ∀ a, a < 12 → ∀ b, b < 12 → stp a b = NN ∨ (16 ≤ stp a b ∧ stp a b < 40) := by decide +kernel
theorem stp_lt {a b : Nat} (ha : a < 12) (hb : b < 12) : stp a b < 2 ^ 32 := by
  rcases stp_ok a ha b hb with e | e
  · rw [e]; decide
  · omega
theorem WF.st {σ : Nat → Nat} {bd i : Nat} (h : WF bd σ) (h1 : 16 ≤ i) (h2 : i < 40) : σ i ≤ 1 := (h.2.2.2.2.2.2.2.2 i h1 h2).1
theorem fwV_le0 {σ : Nat → Nat} : ∀ j, j < 144 → fwV σ 0 0 j ≤ 99 := fun _ _ => fw0_le
-- lose
theorem loseU {σ : Nat → Nat} {m p c r : Nat} (h : σ 0 < 6) : up (up (up (up (up (up (up (up (up (up σ (40 + 8 * σ 0 + 0) m) (40 + 8 * σ 0 + 1) p) (40 + 8 * σ 0 + 2) c) (40 + 8 * σ 0 + 3) (σ 2)) (40 + 8 * σ 0 + 4) r) (40 + 8 * σ 0 + 5) NN) (40 + 8 * σ 0 + 6) NN) (40 + 8 * σ 0 + 7) NN) 3 (σ 3 + r)) 0 (σ 0 + 1) = loseS σ m p c r := by
  funext i
  unfold loseS
  by_cases h1 : i < 40
  · rw [if_pos h1]
    by_cases e0 : i = 0
    · rw [e0, up_s, if_pos rfl]
    · rw [up_n e0, if_neg e0]
      by_cases e3 : i = 3
      · rw [e3, up_s, if_pos rfl]
      · rw [up_n e3, if_neg e3, up_n (by omega), up_n (by omega), up_n (by omega), up_n (by omega), up_n (by omega), up_n (by omega), up_n (by omega), up_n (by omega)]
  · rw [if_neg h1, up_n (by omega), up_n (by omega)]
    by_cases h2 : 40 + 8 * σ 0 ≤ i ∧ i < 48 + 8 * σ 0
    · rw [if_pos h2]
      obtain ⟨k, hk, rfl⟩ : ∃ k, k < 8 ∧ i = 40 + 8 * σ 0 + k := ⟨i - (40 + 8 * σ 0), by omega, by omega⟩
      rw [Nat.add_sub_cancel_left]
      rcases (show k = 0 ∨ k = 1 ∨ k = 2 ∨ k = 3 ∨ k = 4 ∨ k = 5 ∨ k = 6 ∨ k = 7 by omega) with rfl | rfl | rfl | rfl | rfl | rfl | rfl | rfl <;> simp [up, lsRow]
    · rw [if_neg h2, up_n (by omega), up_n (by omega), up_n (by omega), up_n (by omega), up_n (by omega), up_n (by omega), up_n (by omega), up_n (by omega)]
-- sight
theorem mea_ag {σ τ : Nat → Nat} {m h : Nat} (hn : σ 0 ≤ 6) (e : ∀ i, i < 88 → τ i = σ i) : mea τ m h = mea σ m h := by
  have hd : ∀ d k, d < 6 → k < 8 → dg τ d k = dg σ d k := fun d k hd hk => by unfold dg; exact e _ (by omega)
  have hu : ∀ d, d < 6 → unl τ d m = unl σ d m := fun d hd9 => by unfold unl; rw [hd d 0 hd9 (by omega)]
  have hb : ∀ n, n ≤ 6 → bst τ m h n = bst σ m h n := by
    intro n
    induction n with
    | zero => intro _; rfl
    | succ n ih =>
      intro hn9
      have ih := ih (by omega)
      have hl := bst_lt (σ := σ) (m := m) (h := h) n
      unfold bst
      rw [ih, hu n (by omega), hd n 3 (by omega) (by omega), hd n 4 (by omega) (by omega), show msg τ n = msg σ n by unfold msg; rw [hd n 5 (by omega) (by omega)]]
      by_cases q : bst σ m h n = NN
      · simp [q]
      · have q2 := hl.resolve_left q
        rw [hu _ (by omega), hd _ 4 (by omega) (by omega)]
  unfold mea
  rw [e 0 (by omega), e 7 (by omega), hb _ hn]
  by_cases q : bst σ m h (σ 0) = NN
  · simp [q]
  · have q2 := (bst_lt (σ := σ) (m := m) (h := h) (σ 0)).resolve_left q
    rw [hu _ (by omega)]
theorem WF_ag {σ τ : Nat → Nat} {bd : Nat} (h : WF bd σ) (e : ∀ i, i < 88 + 8 * σ 1 → τ i = σ i) : WF bd τ := by
  have hn := h.n0
  obtain ⟨a1, a2, a3, a4, a5, a6, a7, a8, a9⟩ := h
  have hd : ∀ d k, d < 6 → k < 8 → dg τ d k = dg σ d k := fun d k hd hk => by unfold dg; exact e _ (by omega)
  have hg : ∀ s k, s < σ 1 → k < 8 → sg τ s k = sg σ s k := fun s k hs hk => by unfold sg; exact e _ (by omega)
  refine ⟨a1, by rw [e 2 (by omega)]; exact a2, by rw [e 0 (by omega)]; exact a3, by rw [e 1 (by omega)]; exact a4, by rw [e 6 (by omega)]; exact a5, by rw [e 7 (by omega)]; exact a6, fun d hd9 => ?_, fun s hs9 => ?_, fun i hi hi2 => by rw [e i (by omega)]; exact a9 i hi hi2⟩
  · rw [e 0 (by omega)] at hd9
    have q := a7 d hd9
    unfold wfD at q ⊢
    rw [hd d 0 (by omega) (by omega), hd d 1 (by omega) (by omega), hd d 2 (by omega) (by omega), hd d 3 (by omega) (by omega), hd d 4 (by omega) (by omega), hd d 5 (by omega) (by omega), e 2 (by omega)]
    exact q
  · rw [e 1 (by omega)] at hs9
    have q := a8 s hs9
    unfold wfS at q ⊢
    rw [hg s 0 hs9 (by omega), hg s 1 hs9 (by omega), hg s 2 hs9 (by omega), hg s 3 hs9 (by omega), hg s 4 hs9 (by omega), hg s 5 hs9 (by omega), hg s 6 hs9 (by omega), hg s 7 hs9 (by omega), e 2 (by omega), e 0 (by omega)]
    obtain ⟨g1, g2, g3, g4, g5, g6, g7, g8⟩ := q
    refine ⟨g1, g2, g3, g4, g5, ?_, g7, g8⟩
    rcases g6 with g6 | ⟨g6, g9⟩
    · exact Or.inl g6
    · exact Or.inr ⟨g6, by rw [hd _ 3 (by omega) (by omega)]; exact g9⟩
def sU5 (σ : Nat → Nat) (f c m ago ph : Nat) : Nat → Nat := up (up (up (up (up σ (88 + 8 * σ 1 + 0) f) (88 + 8 * σ 1 + 1) c) (88 + 8 * σ 1 + 2) (σ 2 - ago)) (88 + 8 * σ 1 + 3) m) (88 + 8 * σ 1 + 4) ph
theorem sU5_lo {σ : Nat → Nat} {f c m ago ph i : Nat} (h : i < 88 + 8 * σ 1) : sU5 σ f c m ago ph i = σ i := by
  unfold sU5
  rw [up_n (by omega), up_n (by omega), up_n (by omega), up_n (by omega), up_n (by omega)]
def sU8 (σ : Nat → Nat) (f c m ago ph : Nat) : Nat → Nat := up (up (up (sU5 σ f c m ago ph) (88 + 8 * σ 1 + 5) (mea σ m (σ 2 - ago))) (88 + 8 * σ 1 + 6) 0) (88 + 8 * σ 1 + 7) 0
theorem sU8_lo {σ : Nat → Nat} {f c m ago ph i : Nat} (h : i < 88 + 8 * σ 1) : sU8 σ f c m ago ph i = σ i := by
  unfold sU8
  rw [up_n (by omega), up_n (by omega), up_n (by omega), sU5_lo h]
theorem sightU {σ : Nat → Nat} {f c m ago ph : Nat} (_ : σ 1 < 20) : up (sU8 σ f c m ago ph) 1 (σ 1 + 1) = sightS σ f c m ago ph := by
  funext i
  unfold sightS
  by_cases h1 : i < 40
  · rw [if_pos h1]
    by_cases e1 : i = 1
    · rw [e1, up_s, if_pos rfl]
    · rw [up_n e1, if_neg e1, sU8_lo (by omega)]
  · rw [if_neg h1, up_n (by omega)]
    by_cases h2 : 88 + 8 * σ 1 ≤ i ∧ i < 96 + 8 * σ 1
    · rw [if_pos h2]
      obtain ⟨k, hk, rfl⟩ : ∃ k, k < 8 ∧ i = 88 + 8 * σ 1 + k := ⟨i - (88 + 8 * σ 1), by omega, by omega⟩
      rw [Nat.add_sub_cancel_left]
      rcases (show k = 0 ∨ k = 1 ∨ k = 2 ∨ k = 3 ∨ k = 4 ∨ k = 5 ∨ k = 6 ∨ k = 7 by omega) with rfl | rfl | rfl | rfl | rfl | rfl | rfl | rfl <;> simp [up, siRow, sU8, sU5]
    · rw [if_neg h2]
      by_cases h3 : i < 88 + 8 * σ 1
      · exact sU8_lo h3
      · unfold sU8 sU5
        rw [up_n (by omega), up_n (by omega), up_n (by omega), up_n (by omega), up_n (by omega), up_n (by omega), up_n (by omega), up_n (by omega)]
theorem sU8_5 {σ : Nat → Nat} {f c m ago ph : Nat} : sU8 σ f c m ago ph (88 + 8 * σ 1 + 5) = mea σ m (σ 2 - ago) := by
  unfold sU8
  rw [up_n (by omega), up_n (by omega), up_s]
-- set
theorem setU {σ : Nat → Nat} {v : Nat} (z : Bool) : up σ (6 + if z then 0 else 1) v = setS σ z v := by
  funext i
  unfold setS up
  cases z
  · by_cases e7 : i = 7
    · subst e7; simp
    · by_cases e6 : i = 6
      · subst e6; simp
      · simp [e7, e6]
  · by_cases e7 : i = 7
    · subst e7; simp
    · by_cases e6 : i = 6
      · subst e6; simp
      · simp [e7, e6]
-- hours
def inc (σ : Nat → Nat) (h d : Nat) : Nat := if msg σ d && decide ((σ 2 + (h + 1) - dg σ d 3) % 24 = 0) then σ 6 else 0
theorem gro_0 {σ : Nat → Nat} {d : Nat} : gro σ 0 d = 0 := by
  unfold gro
  split
  · rw [Nat.add_zero, Nat.sub_self, Nat.zero_mul]
  · rfl
theorem gro_s {σ : Nat → Nat} {h d : Nat} (hl : dg σ d 3 ≤ σ 2) : gro σ (h + 1) d = gro σ h d + inc σ h d := by
  unfold gro inc
  by_cases hm : msg σ d = true
  · rw [if_pos hm, if_pos hm, hm]
    have e : σ 2 + (h + 1) - dg σ d 3 = σ 2 - dg σ d 3 + (h + 1) := by omega
    rw [e]
    by_cases q : (σ 2 - dg σ d 3 + (h + 1)) % 24 = 0
    · rw [if_pos (by simp [q]), show (σ 2 - dg σ d 3 + (h + 1)) / 24 - (σ 2 - dg σ d 3) / 24 = ((σ 2 - dg σ d 3 + h) / 24 - (σ 2 - dg σ d 3) / 24) + 1 by omega, Nat.add_mul, Nat.one_mul]
    · rw [if_neg (by simp [q]), show (σ 2 - dg σ d 3 + (h + 1)) / 24 - (σ 2 - dg σ d 3) / 24 = (σ 2 - dg σ d 3 + h) / 24 - (σ 2 - dg σ d 3) / 24 by omega, Nat.add_zero]
  · simp [hm]
def hoM (σ : Nat → Nat) (h j : Nat) : Nat → Nat := fun i => if i < 40 then (if i = 2 then σ 2 + (h + 1) else if i = 3 then σ 3 + (sm (gro σ h) (σ 0) + sm (inc σ h) j) else σ i) else if i < 88 ∧ (i - 40) % 8 = 4 ∧ (i - 40) / 8 < σ 0 then σ i + (gro σ h ((i - 40) / 8) + if (i - 40) / 8 < j then inc σ h ((i - 40) / 8) else 0) else σ i
theorem hoS_0 {σ : Nat → Nat} : hoS σ 0 = σ := by
  funext i
  unfold hoS
  by_cases h1 : i < 40
  · rw [if_pos h1]
    by_cases e2 : i = 2
    · rw [if_pos e2, e2]; rfl
    · rw [if_neg e2]
      by_cases e3 : i = 3
      · rw [if_pos e3, sm_congr (σ 0) (h := fun _ => 0) (fun d _ => gro_0), sm_zero, e3]; rfl
      · rw [if_neg e3]
  · rw [if_neg h1]
    split
    · rw [gro_0]; rfl
    · rfl
theorem hoM_0 {σ : Nat → Nat} {h : Nat} : up (hoS σ h) 2 (σ 2 + h + 1) = hoM σ h 0 := by
  funext i
  by_cases e : i = 2
  · subst e
    rw [up_s]
    rfl
  · rw [up_n e]
    unfold hoS hoM
    simp only [if_neg e, Nat.not_lt_zero, if_false, Nat.add_zero, sm]
theorem hoM_n {σ : Nat → Nat} {h : Nat} (hl : ∀ d, d < σ 0 → dg σ d 3 ≤ σ 2) : hoM σ h (σ 0) = hoS σ (h + 1) := by
  have e : sm (gro σ (h + 1)) (σ 0) = sm (gro σ h) (σ 0) + sm (inc σ h) (σ 0) := by
    rw [← sm_add]
    exact sm_congr _ (fun d hd => gro_s (hl d hd))
  funext i
  unfold hoS hoM
  rw [e]
  by_cases q : i < 88 ∧ (i - 40) % 8 = 4 ∧ (i - 40) / 8 < σ 0
  · rw [if_pos q, if_pos q, if_pos q.2.2, gro_s (hl _ q.2.2)]
  · rw [if_neg q, if_neg q]
theorem hoM_r {σ : Nat → Nat} {h j d : Nat} (hd : d < σ 0) (hn : σ 0 ≤ 6) : hoM σ h j (40 + 8 * d + 4) = σ (40 + 8 * d + 4) + (gro σ h d + if d < j then inc σ h d else 0) := by
  have q1 : (40 + 8 * d + 4 - 40) % 8 = 4 := by omega
  have q2 : (40 + 8 * d + 4 - 40) / 8 = d := by omega
  unfold hoM
  rw [if_neg (by omega), q2, if_pos ⟨by omega, q1, hd⟩]
theorem hoM_s {σ : Nat → Nat} {h j : Nat} (hj : j < σ 0) (hn : σ 0 ≤ 6) : up (up (hoM σ h j) (40 + 8 * j + 4) (hoM σ h j (40 + 8 * j + 4) + inc σ h j)) 3 (hoM σ h j 3 + inc σ h j) = hoM σ h (j + 1) := by
  funext i
  by_cases e3 : i = 3
  · subst e3
    rw [up_s]
    show σ 3 + (sm (gro σ h) (σ 0) + sm (inc σ h) j) + inc σ h j = σ 3 + (sm (gro σ h) (σ 0) + (sm (inc σ h) j + inc σ h j))
    omega
  · rw [up_n e3]
    by_cases e4 : i = 40 + 8 * j + 4
    · subst e4
      rw [up_s, hoM_r hj hn, hoM_r hj hn, if_neg (by omega), if_pos (by omega)]
      omega
    · rw [up_n e4]
      unfold hoM
      by_cases h1 : i < 40
      · rw [if_pos h1, if_pos h1, if_neg e3, if_neg e3]
      · rw [if_neg h1, if_neg h1]
        by_cases q : i < 88 ∧ (i - 40) % 8 = 4 ∧ (i - 40) / 8 < σ 0
        · rw [if_pos q, if_pos q]
          have q3 : (i - 40) / 8 ≠ j := by omega
          have q4 : (i - 40) / 8 < j + 1 ↔ (i - 40) / 8 < j := by omega
          simp only [q4]
        · rw [if_neg q, if_neg q]
theorem hoM_no {σ : Nat → Nat} {h j : Nat} (hi : inc σ h j = 0) : hoM σ h j = hoM σ h (j + 1) := by
  funext i
  unfold hoM
  have e : sm (inc σ h) (j + 1) = sm (inc σ h) j := by show sm (inc σ h) j + inc σ h j = _; rw [hi]; rfl
  rw [e]
  by_cases h1 : i < 40
  · rw [if_pos h1, if_pos h1]
  · rw [if_neg h1, if_neg h1]
    by_cases q : i < 88 ∧ (i - 40) % 8 = 4 ∧ (i - 40) / 8 < σ 0
    · rw [if_pos q, if_pos q]
      by_cases q3 : (i - 40) / 8 = j
      · rw [q3, if_neg (by omega), if_pos (by omega), hi]
      · have q4 : (i - 40) / 8 < j + 1 ↔ (i - 40) / 8 < j := by omega
        simp only [q4]
    · rw [if_neg q, if_neg q]
section HM
variable {σ : Nat → Nat} {h j d k : Nat}
theorem hoM_dg (hd : d < 6) (hk : k < 8) (h4 : k ≠ 4) : dg (hoM σ h j) d k = dg σ d k := by
  unfold dg hoM
  rw [if_neg (by omega), if_neg (by omega)]
theorem hoM_msg (hd : d < 6) : msg (hoM σ h j) d = msg σ d := by unfold msg; rw [hoM_dg hd (by decide) (by decide)]
end HM
