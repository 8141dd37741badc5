/-! THE REFERENCE: a dog found. -/
/-- help of all finders, the first i sightings counted -/
def hpI (σ : Nat → Nat) (d fi c i f : Nat) : Nat := (if f = fi then 3 else 0) + sm (fun s => if hon σ d s && decide (sg σ s 0 = f) then hlp σ s c else 0) i
def hl0 (fi : Nat) (w : Nat → Nat) (i : Nat) : Nat → Nat := fun f => if f < i then (if f = fi then 3 else 0) else w f
theorem hl0_0 {fi : Nat} {w : Nat → Nat} : hl0 fi w 0 = w := by
  funext f
  simp [hl0]
theorem hl0_s {fi i v : Nat} {w : Nat → Nat} (h : (if i = fi then 3 else 0) = v) : up (hl0 fi w i) i v = hl0 fi w (i + 1) := by
  subst h
  funext f
  by_cases e : f = i
  · subst e
    simp [up, hl0]
  · have h2 : f < i + 1 ↔ f < i := by omega
    simp [up, hl0, e, h2]
theorem hpI_0 {σ : Nat → Nat} {d fi c f i : Nat} {w : Nat → Nat} (h : f < i) : mS (hl0 fi w i) f = mS (hpI σ d fi c 0) f := by
  show nI _ = nI _
  rw [show hl0 fi w i f = (if f = fi then 3 else 0) from if_pos h]
  rfl
theorem hpI_s {σ : Nat → Nat} {d fi c i : Nat} (h : hon σ d i = true) : up (hpI σ d fi c i) (sg σ i 0) (hpI σ d fi c i (sg σ i 0) + hlp σ i c) = hpI σ d fi c (i + 1) := by
  funext f
  by_cases e : f = sg σ i 0
  · subst e
    rw [up_s]
    simp [hpI, sm, h, Nat.add_assoc]
  · rw [up_n e]
    simp [hpI, sm, h, Ne.symm e]
theorem hpI_no {σ : Nat → Nat} {d fi c i : Nat} (h : hon σ d i = false) : hpI σ d fi c i = hpI σ d fi c (i + 1) := by
  funext f
  simp [hpI, sm, h]
theorem hpI_n {σ : Nat → Nat} {d fi c : Nat} : hpI σ d fi c (σ 1) = hOf σ d fi c := rfl
theorem hpI_le {σ : Nat → Nat} {bd d fi c i f : Nat} (h : WF bd σ) (hi : i ≤ σ 1) : hpI σ d fi c i f ≤ 63 := by
  unfold hpI
  have q : sm (fun s => if hon σ d s && decide (sg σ s 0 = f) then hlp σ s c else 0) i ≤ i * 3 := sm_le _ (fun s hs => by
    have := hlp_le (σ := σ) (s := s) (c := c) (h.sb (show s < σ 1 by omega)).2.2.2.2.1
    split <;> omega)
  have := h.n1
  split <;> omega
-- a state that differs in the last two numbers of a dog's sightings alone
def agS (σ τ : Nat → Nat) (d : Nat) : Prop := ∀ j, τ j = σ j ∨ (88 ≤ j ∧ ((j - 88) % 8 = 6 ∨ (j - 88) % 8 = 7) ∧ sg σ ((j - 88) / 8) 5 = d ∧ τ j ≤ 1)
section AS
variable {σ τ : Nat → Nat} {d bd : Nat}
theorem agS.lo (h : agS σ τ d) {j : Nat} (hj : j < 88) : τ j = σ j := (h j).resolve_right (fun q => by omega)
theorem agS.dgx (h : agS σ τ d) {e k : Nat} (he : e < 6) (hk : k < 8) : dg τ e k = dg σ e k := h.lo (by omega)
theorem agS.sgx (h : agS σ τ d) {s k : Nat} (hk : k < 6) : sg τ s k = sg σ s k := (h (88 + 8 * s + k)).resolve_right (fun q => by omega)
end AS
theorem agS_msg {σ τ : Nat → Nat} {d e : Nat} (h : agS σ τ d) (he : e < 6) : msg τ e = msg σ e := by unfold msg; rw [h.dgx he (by decide)]
theorem agS_st {σ τ : Nat → Nat} {d : Nat} (h : agS σ τ d) : ∀ i, 16 ≤ i → i < 40 → τ i = σ i := fun i _ h2 => h.lo (by omega)
theorem agS_rch {σ τ : Nat → Nat} {d a b mo : Nat} (h : agS σ τ d) (ha : a < 12) (hb : b < 12) : rch τ a b mo = rch σ a b mo := by
  unfold rch
  rw [di_of (agS_st h) ha hb]
theorem WF_agS {σ τ : Nat → Nat} {d bd : Nat} (h : WF bd σ) (e : agS σ τ d) : WF bd τ := by
  have hn := h.n0
  obtain ⟨a1, a2, a3, a4, a5, a6, a7, a8, a9⟩ := h
  refine ⟨a1, by rw [e.lo (by omega)]; exact a2, by rw [e.lo (by omega)]; exact a3, by rw [e.lo (by omega)]; exact a4, by rw [e.lo (by omega)]; exact a5, by rw [e.lo (by omega)]; exact a6, fun x hx => ?_, fun s hs => ?_, fun i hi hi2 => by rw [e.lo (by omega)]; exact a9 i hi hi2⟩
  · rw [e.lo (by omega)] at hx
    have q := a7 x hx
    unfold wfD at q ⊢
    rw [e.dgx (by omega) (by omega), e.dgx (by omega) (by omega), e.dgx (by omega) (by omega), e.dgx (by omega) (by omega), e.dgx (by omega) (by omega), e.dgx (by omega) (by omega), e.lo (show 2 < 88 by omega)]
    exact q
  · rw [e.lo (by omega)] at hs
    have q := a8 s hs
    unfold wfS at q ⊢
    rw [e.sgx (by omega), e.sgx (by omega), e.sgx (by omega), e.sgx (by omega), e.sgx (by omega), e.sgx (by omega), e.lo (show 2 < 88 by omega), e.lo (show 0 < 88 by omega)]
    obtain ⟨g1, g2, g3, g4, g5, g6, g7, g8⟩ := q
    refine ⟨g1, g2, g3, g4, g5, ?_, ?_, ?_⟩
    · rcases g6 with g6 | ⟨g6, g9⟩
      · exact Or.inl g6
      · exact Or.inr ⟨g6, by rw [e.dgx (by omega) (by omega)]; exact g9⟩
    · rcases e (88 + 8 * s + 6) with z | z
      · exact Nat.le_trans (Nat.le_of_eq z) g7
      · exact z.2.2.2
    · rcases e (88 + 8 * s + 7) with z | z
      · exact Nat.le_trans (Nat.le_of_eq z) g8
      · exact z.2.2.2
theorem agS_tru {σ τ : Nat → Nat} {d bd s : Nat} (hw : WF bd σ) (e : agS σ τ d) (hd : d < σ 0) (hg : msg σ d = true) (hs : s < σ 1) (hm : sg σ s 5 = d) : tru τ s = tru σ s := by
  have hn := hw.n0
  have hsb := hw.sb hs
  have hdb := hw.db hd
  unfold tru
  rw [e.sgx (by omega), hm, agS_msg e (by omega), if_pos hg, if_pos hg, e.dgx (by omega) (by omega), e.dgx (by omega) (by omega), e.dgx (by omega) (by omega), e.sgx (by omega), e.sgx (by omega), agS_rch e (by omega) (by omega)]
theorem agS_frd {σ τ : Nat → Nat} {d bd s : Nat} (hw : WF bd σ) (e : agS σ τ d) (hd : d < σ 0) (hg : msg σ d = true) (hs : s < σ 1) (hm : sg σ s 5 = d) : frd τ s = frd σ s := by
  have hn := hw.n0
  have hnn := hw.nn hd
  have hsb := hw.sb hs
  have ho : ∀ o, o < σ 1 → oth τ s o = oth σ s o := fun o ho => by
    unfold oth
    rw [e.sgx (by omega), e.sgx (by omega), hm]
    by_cases q : sg σ o 5 = d
    · rw [agS_tru hw e hd hg ho q]
    · simp [q]
  have hf : ∀ o, o < σ 1 → fit τ s o = fit σ s o := fun o ho => by
    have hob := hw.sb ho
    unfold fit
    rw [e.sgx (by omega), e.sgx (by omega), e.sgx (by omega), e.sgx (by omega), e.sgx (by omega), hm, e.dgx (by omega) (by omega), agS_rch e (by omega) (by omega)]
  rw [frd_of hnn (by rw [agS_msg e (by omega)]; exact hg) (show mng τ d s = true by unfold mng; rw [e.sgx (by omega)]; simp [hm]), frd_of hnn hg (show mng σ d s = true by simp [mng, hm]), agS_tru hw e hd hg hs hm, e.sgx (by omega), e.lo (show 1 < 88 by omega),
    ex_congr _ ho, ex_congr (σ 1) (p := fun o => oth τ s o && fit τ s o) (q := fun o => oth σ s o && fit σ s o) (fun o h => by rw [ho o h, hf o h])]
/-- the first i sightings settled -/
def stI (σ : Nat → Nat) (d i : Nat) : Nat → Nat := fun j => if 88 ≤ j ∧ (j - 88) / 8 < i ∧ sg σ ((j - 88) / 8) 5 = d then (if (j - 88) % 8 = 6 then (if tru σ ((j - 88) / 8) then 1 else 0) else if (j - 88) % 8 = 7 then (if frd σ ((j - 88) / 8) then 1 else 0) else σ j) else σ j
theorem stI_0 {σ : Nat → Nat} {d : Nat} : stI σ d 0 = σ := by
  funext j
  unfold stI
  rw [if_neg (fun q => absurd q.2.1 (Nat.not_lt_zero _))]
theorem stI_ag {σ : Nat → Nat} {d i : Nat} : agS σ (stI σ d i) d := by
  intro j
  unfold stI
  by_cases q : 88 ≤ j ∧ (j - 88) / 8 < i ∧ sg σ ((j - 88) / 8) 5 = d
  · rw [if_pos q]
    by_cases e6 : (j - 88) % 8 = 6
    · rw [if_pos e6]
      exact Or.inr ⟨q.1, Or.inl e6, q.2.2, by split <;> omega⟩
    · rw [if_neg e6]
      by_cases e7 : (j - 88) % 8 = 7
      · rw [if_pos e7]
        exact Or.inr ⟨q.1, Or.inr e7, q.2.2, by split <;> omega⟩
      · rw [if_neg e7]
        exact Or.inl rfl
  · rw [if_neg q]
    exact Or.inl rfl
theorem stU_ag {σ : Nat → Nat} {d i v : Nat} (hv : v ≤ 1) (hm : sg σ i 5 = d) : agS σ (up (stI σ d i) (88 + 8 * i + 6) v) d := by
  intro j
  by_cases e : j = 88 + 8 * i + 6
  · subst e
    rw [up_s]
    exact Or.inr ⟨by omega, by omega, by rw [show (88 + 8 * i + 6 - 88) / 8 = i by omega]; exact hm, hv⟩
  · rw [up_n e]
    exact stI_ag j
theorem stI_s {σ : Nat → Nat} {d i : Nat} (hm : sg σ i 5 = d) : up (up (stI σ d i) (88 + 8 * i + 6) (if tru σ i then 1 else 0)) (88 + 8 * i + 7) (if frd σ i then 1 else 0) = stI σ d (i + 1) := by
  funext j
  by_cases e7 : j = 88 + 8 * i + 7
  · subst e7
    rw [up_s]
    unfold stI
    have q1 : (88 + 8 * i + 7 - 88) / 8 = i := by omega
    have q2 : (88 + 8 * i + 7 - 88) % 8 = 7 := by omega
    rw [q1, q2, if_pos (show 88 ≤ 88 + 8 * i + 7 ∧ i < i + 1 ∧ sg σ i 5 = d from ⟨by omega, by omega, hm⟩), if_neg (show ¬ 7 = 6 by decide), if_pos (show 7 = 7 from rfl)]
  · rw [up_n e7]
    by_cases e6 : j = 88 + 8 * i + 6
    · subst e6
      rw [up_s]
      unfold stI
      have q1 : (88 + 8 * i + 6 - 88) / 8 = i := by omega
      have q2 : (88 + 8 * i + 6 - 88) % 8 = 6 := by omega
      rw [q1, q2, if_pos (show 88 ≤ 88 + 8 * i + 6 ∧ i < i + 1 ∧ sg σ i 5 = d from ⟨by omega, by omega, hm⟩), if_pos (show 6 = 6 from rfl)]
    · rw [up_n e6]
      unfold stI
      by_cases q : 88 ≤ j ∧ (j - 88) / 8 < i ∧ sg σ ((j - 88) / 8) 5 = d
      · have q9 : 88 ≤ j ∧ (j - 88) / 8 < i + 1 ∧ sg σ ((j - 88) / 8) 5 = d := ⟨q.1, by omega, q.2.2⟩
        rw [if_pos q, if_pos q9]
      · rw [if_neg q]
        by_cases q9 : 88 ≤ j ∧ (j - 88) / 8 < i + 1 ∧ sg σ ((j - 88) / 8) 5 = d
        · have qi : (j - 88) / 8 = i := Classical.byContradiction (fun z => q ⟨q9.1, by omega, q9.2.2⟩)
          rw [if_pos q9, if_neg (by omega), if_neg (by omega)]
        · rw [if_neg q9]
theorem stI_no {σ : Nat → Nat} {d i : Nat} (hm : sg σ i 5 ≠ d) : stI σ d i = stI σ d (i + 1) := by
  funext j
  unfold stI
  by_cases q : 88 ≤ j ∧ (j - 88) / 8 < i ∧ sg σ ((j - 88) / 8) 5 = d
  · have q9 : 88 ≤ j ∧ (j - 88) / 8 < i + 1 ∧ sg σ ((j - 88) / 8) 5 = d := ⟨q.1, by omega, q.2.2⟩
    rw [if_pos q, if_pos q9]
  · rw [if_neg q, if_neg]
    intro z
    refine q ⟨z.1, ?_, z.2.2⟩
    have : (j - 88) / 8 ≠ i := fun e => hm (by rw [← e]; exact z.2.2)
    omega
-- a state that differs in purses and coins alone
def agP (σ τ : Nat → Nat) : Prop := ∀ i, i = 4 ∨ i = 5 ∨ (8 ≤ i ∧ i < 16) ∨ τ i = σ i
section AP
variable {σ τ : Nat → Nat} {bd d s : Nat}
theorem agP.e (h : agP σ τ) {i : Nat} (h1 : i ≠ 4) (h2 : i ≠ 5) (h3 : i < 8 ∨ 16 ≤ i) : τ i = σ i := by
  rcases h i with q | q | q | q
  · exact absurd q h1
  · exact absurd q h2
  · omega
  · exact q
theorem agP.dgx (h : agP σ τ) (e k : Nat) : dg τ e k = dg σ e k := h.e (by omega) (by omega) (by omega)
theorem agP.sgx (h : agP σ τ) (e k : Nat) : sg τ e k = sg σ e k := h.e (by omega) (by omega) (by omega)
end AP
theorem agP_msg {σ τ : Nat → Nat} (h : agP σ τ) (d : Nat) : msg τ d = msg σ d := by unfold msg; rw [h.dgx]
theorem agP_rch {σ τ : Nat → Nat} {a b mo : Nat} (h : agP σ τ) (ha : a < 12) (hb : b < 12) : rch τ a b mo = rch σ a b mo := by
  unfold rch
  rw [di_of (fun i h1 h2 => h.e (by omega) (by omega) (by omega)) ha hb]
theorem WF_agP {σ τ : Nat → Nat} {bd : Nat} (h : WF bd σ) (e : agP σ τ) : WF bd τ :=
  WF_same h (e.e (by omega) (by omega) (by omega)) (e.e (by omega) (by omega) (by omega)) (e.e (by omega) (by omega) (by omega)) (by rw [e.e (by omega) (by omega) (by omega)]; exact h.2.2.2.2.1) (by rw [e.e (by omega) (by omega) (by omega)]; exact h.2.2.2.2.2.1) (fun i hi => e.e (by omega) (by omega) (by omega))
theorem agP_tru {σ τ : Nat → Nat} {bd s : Nat} (hw : WF bd σ) (e : agP σ τ) (hs : s < σ 1) (hm : sg σ s 5 ≠ NN) : tru τ s = tru σ s := by
  have hsb := hw.sb hs
  have hdb := hw.db (hw.s5 hs hm)
  unfold tru
  simp only [e.sgx, e.dgx, agP_msg e]
  rw [agP_rch e (by omega) (by omega)]
theorem agP_frd {σ τ : Nat → Nat} {bd s : Nat} (hw : WF bd σ) (e : agP σ τ) (hs : s < σ 1) : frd τ s = frd σ s := by
  have hsb := hw.sb hs
  by_cases hm : sg σ s 5 = NN
  · unfold frd
    rw [e.sgx, if_pos hm, if_pos hm]
  · have ho : ∀ o, o < σ 1 → oth τ s o = oth σ s o := fun o ho => by
      unfold oth
      simp only [e.sgx]
      by_cases q : sg σ o 5 = sg σ s 5
      · rw [agP_tru hw e ho (by rw [q]; exact hm)]
      · simp [q]
    have hf : ∀ o, o < σ 1 → fit τ s o = fit σ s o := fun o ho => by
      have hob := hw.sb ho
      unfold fit
      simp only [e.sgx, e.dgx]
      rw [agP_rch e (by omega) (by omega)]
    unfold frd
    simp only [e.sgx, agP_msg e]
    rw [agP_tru hw e hs hm, e.e (show (1 : Nat) ≠ 4 by omega) (by omega) (by omega), ex_congr _ ho, ex_congr (σ 1) (p := fun o => oth τ s o && fit τ s o) (q := fun o => oth σ s o && fit σ s o) (fun o h => by rw [ho o h, hf o h])]
/-- the first i finders paid -/
def fpI (σ : Nat → Nat) (d fi c i : Nat) : Nat → Nat := fun j => if j = 4 then σ 4 + sm (shr σ d fi c) i else if 8 ≤ j ∧ j < 8 + i then σ j + shr σ d fi c (j - 8) else σ j
theorem fpI_0 {σ : Nat → Nat} {d fi c : Nat} : fpI σ d fi c 0 = σ := by
  funext j
  unfold fpI
  by_cases e : j = 4
  · rw [if_pos e, e]; rfl
  · rw [if_neg e, if_neg (by omega)]
theorem fpI_hi {σ : Nat → Nat} {d fi c i j : Nat} (h : 16 ≤ j ∨ j < 4) (hi : i ≤ 8) : fpI σ d fi c i j = σ j := by
  unfold fpI
  rw [if_neg (by omega), if_neg (by omega)]
theorem fpI_s {σ : Nat → Nat} {d fi c i : Nat} : up (up (fpI σ d fi c i) (8 + i) (fpI σ d fi c i (8 + i) + shr σ d fi c i)) 4 (fpI σ d fi c i 4 + shr σ d fi c i) = fpI σ d fi c (i + 1) := by
  funext j
  by_cases e4 : j = 4
  · subst e4
    rw [up_s]
    show σ 4 + sm (shr σ d fi c) i + shr σ d fi c i = σ 4 + (sm (shr σ d fi c) i + shr σ d fi c i)
    omega
  · rw [up_n e4]
    by_cases e : j = 8 + i
    · subst e
      rw [up_s]
      unfold fpI
      rw [if_neg (by omega), if_neg (by omega), if_neg (by omega), if_pos (by omega), Nat.add_sub_cancel_left]
    · rw [up_n e]
      unfold fpI
      rw [if_neg e4, if_neg e4]
      have h2 : (8 ≤ j ∧ j < 8 + (i + 1)) ↔ (8 ≤ j ∧ j < 8 + i) := by omega
      simp only [h2]
def fp5 (σ : Nat → Nat) (d fi c : Nat) : Nat → Nat := up (fpI σ d fi c 8) 5 (σ 5 + (dg σ d 4 - sm (shr σ d fi c) 8))
theorem fp5_ag {σ : Nat → Nat} {d fi c : Nat} : agP σ (fp5 σ d fi c) := by
  intro i
  by_cases h4 : i = 4
  · exact Or.inl h4
  · by_cases h5 : i = 5
    · exact Or.inr (Or.inl h5)
    · by_cases h8 : 8 ≤ i ∧ i < 16
      · exact Or.inr (Or.inr (Or.inl h8))
      · refine Or.inr (Or.inr (Or.inr ?_))
        unfold fp5
        rw [up_n h5]
        unfold fpI
        rw [if_neg h4, if_neg (by omega)]
/-- all of find -/
theorem findU {σ : Nat → Nat} {bd d fi c : Nat} (hw : WF bd σ) (hd : d < σ 0) :
    up (up (up (stI (fp5 σ d fi c) d (σ 1)) (40 + 8 * d + 5) c) (40 + 8 * d + 6) fi) (40 + 8 * d + 7) (σ 2) = findS σ d fi c := by
  have hn := hw.n0
  have hnn := hw.nn hd
  funext i
  by_cases h1 : i < 40
  · rw [up_n (by omega), up_n (by omega), up_n (by omega)]
    unfold findS stI fp5
    rw [if_pos h1, if_neg (by omega)]
    by_cases e4 : i = 4
    · subst e4
      rfl
    · by_cases e5 : i = 5
      · subst e5
        rfl
      · rw [up_n e5, if_neg e4, if_neg e5]
        unfold fpI
        rw [if_neg e4]
  · by_cases h2 : i < 88
    · unfold findS
      rw [if_neg h1, if_pos h2]
      by_cases e7 : i = 40 + 8 * d + 7
      · subst e7
        rw [up_s, if_neg (by omega), if_neg (by omega), if_pos rfl]
      · rw [up_n e7]
        by_cases e6 : i = 40 + 8 * d + 6
        · subst e6
          rw [up_s, if_neg (by omega), if_pos rfl]
        · rw [up_n e6]
          by_cases e5 : i = 40 + 8 * d + 5
          · subst e5
            rw [up_s, if_pos rfl]
          · rw [up_n e5, if_neg e5, if_neg e6, if_neg e7]
            unfold stI fp5
            rw [if_neg (by omega), up_n (by omega), fpI_hi (by omega) (by omega)]
    · rw [up_n (by omega), up_n (by omega), up_n (by omega)]
      unfold findS
      rw [if_neg h1, if_neg h2]
      have ha := fp5_ag (σ := σ) (d := d) (fi := fi) (c := c)
      unfold stI
      rw [ha.sgx]
      by_cases q : (i - 88) / 8 < σ 1 ∧ sg σ ((i - 88) / 8) 5 = d
      · rw [if_pos q, if_pos ⟨by omega, q.1, q.2⟩, agP_tru hw ha q.1 (by rw [q.2]; exact hnn), agP_frd hw ha q.1, ha.e (by omega) (by omega) (by omega)]
      · rw [if_neg q, if_neg (fun z => q ⟨z.2.1, z.2.2⟩), ha.e (by omega) (by omega) (by omega)]
