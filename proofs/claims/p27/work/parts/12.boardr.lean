/-! WHAT THE CLASS'S BOARD ANSWERS, in the words of the state. -/
theorem bI_n (b : Bool) : bI b = nI (if b then 1 else 0) := by cases b <;> rfl
theorem abs_ad {a b : Nat} (ha : a < 2 ^ 30) (hb : b < 2 ^ 30) : (if 0 ≤ nI a - nI b then nI a - nI b else 0 - (nI a - nI b)) = nI (ad a b) := by
  unfold ad
  by_cases h : a < b
  · rw [if_neg (Int32.not_le.mpr (pk_sneg hb h)), if_pos h, ← pk_sub (show a ≤ b by omega)]
    apply Int32.toBitVec_inj.mp
    show 0#32 - ((nI a).toBitVec - (nI b).toBitVec) = (nI b).toBitVec - (nI a).toBitVec
    bv_omega
  · rw [pk_sub (show b ≤ a by omega), if_pos (nI_pos' (by omega)), if_neg h]
/-- of the first n dogs the one that is meant -/
def mei (σ : Nat → Nat) (m h n : Nat) : Nat := if bst σ m h n ≠ NN ∧ unl σ (bst σ m h n) m ≤ σ 7 then bst σ m h n else NN
def cm3 (σ : Nat → Nat) (m h d : Nat) : Bool := msg σ d && (decide (dg σ d 3 ≤ h) && decide (unl σ d m ≤ σ 7))
def bef (σ : Nat → Nat) (d o m : Nat) : Bool := if unl σ d m = unl σ o m then decide (dg σ o 4 < dg σ d 4) else decide (unl σ d m < unl σ o m)
theorem bst_lt {σ : Nat → Nat} {m h : Nat} : ∀ n, bst σ m h n = NN ∨ bst σ m h n < n
  | 0 => Or.inl rfl
  | n + 1 => by
    have ih := bst_lt (σ := σ) (m := m) (h := h) n
    unfold bst
    split
    · split
      · exact Or.inr (by omega)
      · split
        · exact Or.inr (by omega)
        · exact ih.imp id (fun q => by omega)
    · exact ih.imp id (fun q => by omega)
theorem mei_lt {σ : Nat → Nat} {m h n : Nat} : mei σ m h n = NN ∨ mei σ m h n < n := by
  unfold mei
  split
  · exact bst_lt n
  · exact Or.inl rfl
theorem mei_skip {σ : Nat → Nat} {m h i : Nat} (hi : i < 6) (c : cm3 σ m h i = false) : mei σ m h (i + 1) = mei σ m h i := by
  have hn : i ≠ NN := fun e => by rw [e] at hi; exact absurd hi (by decide)
  unfold mei
  by_cases h1 : msg σ i && decide (dg σ i 3 ≤ h)
  · have h2 : ¬ unl σ i m ≤ σ 7 := by
      intro q
      simp only [Bool.and_eq_true, decide_eq_true_eq] at h1
      simp [cm3, h1.1, h1.2, q] at c
    have e : bst σ m h (i + 1) = if bst σ m h i = NN then i else if unl σ i m < unl σ (bst σ m h i) m ∨ (unl σ i m = unl σ (bst σ m h i) m ∧ dg σ (bst σ m h i) 4 < dg σ i 4) then i else bst σ m h i := by
      show (if msg σ i && decide (dg σ i 3 ≤ h) then _ else _) = _
      rw [if_pos h1]
    rw [e]
    by_cases h3 : bst σ m h i = NN
    · rw [if_pos h3, if_neg (fun z => h2 z.2), if_neg (fun z => z.1 h3)]
    · rw [if_neg h3]
      split
      · rename_i h4
        rw [if_neg (fun z => h2 z.2), if_neg]
        intro z
        have := z.2
        omega
      · rfl
  · have e : bst σ m h (i + 1) = bst σ m h i := by
      show (if msg σ i && decide (dg σ i 3 ≤ h) then _ else _) = _
      rw [if_neg h1]
    rw [e]
theorem mei_go {σ : Nat → Nat} {m h i : Nat} (hi : i < 6) (c : cm3 σ m h i = true) : mei σ m h (i + 1) = if mei σ m h i = NN then i else if bef σ i (mei σ m h i) m = true then i else mei σ m h i := by
  have hn : i ≠ NN := fun e => by rw [e] at hi; exact absurd hi (by decide)
  simp only [cm3, Bool.and_eq_true, decide_eq_true_eq] at c
  have h1 : (msg σ i && decide (dg σ i 3 ≤ h)) = true := by simp [c.1, c.2.1]
  have e : bst σ m h (i + 1) = if bst σ m h i = NN then i else if unl σ i m < unl σ (bst σ m h i) m ∨ (unl σ i m = unl σ (bst σ m h i) m ∧ dg σ (bst σ m h i) 4 < dg σ i 4) then i else bst σ m h i := by
    show (if msg σ i && decide (dg σ i 3 ≤ h) then _ else _) = _
    rw [if_pos h1]
  have hb : bef σ i (bst σ m h i) m = true ↔ (unl σ i m < unl σ (bst σ m h i) m ∨ (unl σ i m = unl σ (bst σ m h i) m ∧ dg σ (bst σ m h i) 4 < dg σ i 4)) := by
    unfold bef
    split
    · rename_i q
      simp only [decide_eq_true_eq]
      omega
    · rename_i q
      simp only [decide_eq_true_eq]
      omega
  unfold mei
  rw [e]
  by_cases h3 : bst σ m h i = NN
  · rw [if_pos h3, if_pos ⟨hn, c.2.2⟩, if_pos (if_neg (fun z => z.1 h3))]
  · rw [if_neg h3]
    by_cases h4 : unl σ (bst σ m h i) m ≤ σ 7
    · rw [if_pos (⟨h3, h4⟩ : bst σ m h i ≠ NN ∧ unl σ (bst σ m h i) m ≤ σ 7), if_neg h3]
      by_cases h5 : bef σ i (bst σ m h i) m = true
      · rw [if_pos (hb.mp h5), if_pos h5, if_pos ⟨hn, c.2.2⟩]
      · rw [if_neg (fun z => h5 (hb.mpr z)), if_neg h5, if_pos ⟨h3, h4⟩]
    · rw [if_neg (fun z : bst σ m h i ≠ NN ∧ unl σ (bst σ m h i) m ≤ σ 7 => h4 z.2), if_pos rfl, if_pos (Or.inl (by omega)), if_pos ⟨hn, c.2.2⟩]
theorem mei_at {σ : Nat → Nat} {m h : Nat} : mea σ m h = mei σ m h (σ 0) := rfl
/-- sightings of a dog -/
theorem st_tr {σ : Nat → Nat} {d : Nat} (hm : msg σ d = false) : mk (stT σ d) (σ 1) = mk (trD σ d) (σ 1) := mk_congr _ (fun s _ => by
  unfold stT trD mng tru
  by_cases h : sg σ s 5 = d
  · simp [h, hm]
  · simp [h])
theorem st_fr {σ : Nat → Nat} {d : Nat} (hd : d ≠ NN) (hm : msg σ d = false) : mk (stF σ d) (σ 1) = mk (frD σ d) (σ 1) := mk_congr _ (fun s _ => by
  unfold stF frD mng frd
  by_cases h : sg σ s 5 = d
  · simp [h, hm, hd]
  · simp [h])
theorem ho_eq {σ : Nat → Nat} {d : Nat} : mk (fun s => mng σ d s && !frD σ d s) (σ 1) = mk (hon σ d) (σ 1) := mk_congr _ (fun s _ => by
  unfold hon frD
  cases mng σ d s <;> simp)
/-- frauds of a missing dog, the first i decided -/
def frI (σ : Nat → Nat) (d i s : Nat) : Bool := mng σ d s && (if s < i then frd σ s else !tru σ s)
theorem frI_0 {σ : Nat → Nat} {d : Nat} : mk (fun s => mng σ d s && !trD σ d s) (σ 1) = mk (frI σ d 0) (σ 1) := mk_congr _ (fun s _ => by
  unfold frI trD
  simp only [Nat.not_lt_zero, if_false]
  cases mng σ d s <;> simp)
theorem frI_n {σ : Nat → Nat} {d : Nat} : mk (frI σ d (σ 1)) (σ 1) = mk (frD σ d) (σ 1) := mk_congr _ (fun s hs => by
  unfold frI frD
  rw [if_pos hs])
theorem frI_keep {σ : Nat → Nat} {d i : Nat} (h : mng σ d i = true → frd σ i = !tru σ i) : mk (frI σ d i) (σ 1) = mk (frI σ d (i + 1)) (σ 1) := mk_congr _ (fun s _ => by
  unfold frI
  by_cases h1 : s = i
  · subst h1
    rw [if_neg (Nat.lt_irrefl _), if_pos (Nat.lt_succ_self _)]
    cases hm : mng σ d s
    · rfl
    · rw [h hm]
  · have h2 : s < i + 1 ↔ s < i := by omega
    simp only [h2])
theorem frI_set {σ : Nat → Nat} {d i : Nat} (hi : i < σ 1) (hm : mng σ d i = true) (h : frd σ i = true) : mk (frI σ d i) (σ 1) ||| 2 ^ i = mk (frI σ d (i + 1)) (σ 1) := by
  rw [nb_orb hi]
  apply mk_congr
  intro s _
  unfold frI
  by_cases h1 : i = s
  · subst h1
    simp [hm, h]
  · have h2 : s < i + 1 ↔ s < i := by omega
    simp [h1, h2]
/-- a sighting of a missing dog: what makes it a fraud -/
theorem frd_of {σ : Nat → Nat} {d s : Nat} (hd : d ≠ NN) (hg : msg σ d = true) (hm : mng σ d s = true) : frd σ s = (if tru σ s then (if sg σ s 4 = 1 then false else ex (oth σ s) (σ 1) && !ex (fun o => oth σ s o && fit σ s o) (σ 1)) else true) := by
  have e : sg σ s 5 = d := by simpa [mng] using hm
  unfold frd
  rw [e, if_neg hd, if_pos hg]
theorem oth_mk {σ : Nat → Nat} {d s : Nat} (hm : mng σ d s = true) : mk (fun o => trD σ d o && !decide (o = s)) (σ 1) = mk (oth σ s) (σ 1) := mk_congr _ (fun o _ => by
  have e : sg σ s 5 = d := by simpa [mng] using hm
  unfold oth trD mng
  rw [e]
  by_cases h : o = s <;> simp [h])
theorem oth_ex {σ : Nat → Nat} {s : Nat} : mk (oth σ s) (σ 1) = 0 ↔ ex (oth σ s) (σ 1) = false := by rw [mk_zero, ex_no]
/-- one of a set fits -/
def fo1 (σ : Nat → Nat) (ot s p : Nat) (o : Nat) : Bool := ot.testBit o && rch σ (sg σ s 1) (sg σ o 1) (p * ad (sg σ s 2) (sg σ o 2))
theorem fo_ex {σ : Nat → Nat} {d s : Nat} (hm : mng σ d s = true) : ex (fo1 σ (mk (oth σ s) (σ 1)) s (dg σ d 1)) (σ 1) = ex (fun o => oth σ s o && fit σ s o) (σ 1) := ex_congr _ (fun o ho => by
  have e : sg σ s 5 = d := by simpa [mng] using hm
  unfold fo1 fit
  rw [mk_bit, e]
  simp [ho])
/-- all frauds -/
theorem fr_all {σ : Nat → Nat} {bd : Nat} (h : WF bd σ) : sm (fun d => ct (frD σ d) (σ 1)) (σ 0) = ct (frd σ) (σ 1) := by
  have key : ∀ n, n ≤ σ 1 → sm (fun d => ct (frD σ d) n) (σ 0) = ct (frd σ) n := by
    intro n
    induction n with
    | zero =>
      intro _
      have : ∀ k, sm (fun d => ct (frD σ d) 0) k = 0 := by
        intro k
        induction k with
        | zero => rfl
        | succ k ih => show sm _ k + 0 = 0; rw [ih]
      exact this _
    | succ n ih =>
      intro hn
      have e : ∀ k, sm (fun d => ct (frD σ d) (n + 1)) k = sm (fun d => ct (frD σ d) n) k + sm (fun d => if frD σ d n then 1 else 0) k := by
        intro k
        induction k with
        | zero => rfl
        | succ k ihk =>
          show sm _ k + (ct (frD σ k) n + (if frD σ k n then 1 else 0)) = sm _ k + ct (frD σ k) n + (sm _ k + (if frD σ k n then 1 else 0))
          rw [ihk]
          omega
      rw [e, ih (by omega)]
      show _ = ct (frd σ) n + (if frd σ n then 1 else 0)
      have e2 : ∀ k, sm (fun d => if frD σ d n then 1 else 0) k = if frd σ n = true ∧ sg σ n 5 < k then 1 else 0 := by
        intro k
        induction k with
        | zero => simp [sm]
        | succ k ihk =>
          show sm _ k + (if frD σ k n then 1 else 0) = _
          rw [ihk]
          unfold frD mng
          by_cases hf : frd σ n = true
          · by_cases hk : sg σ n 5 = k
            · simp [hf, hk]
            · have q : sg σ n 5 < k + 1 ↔ sg σ n 5 < k := by omega
              simp [hf, hk, q]
          · simp [hf]
      rw [e2]
      by_cases hf : frd σ n = true
      · have hs := h.ss (show n < σ 1 by omega)
        have h5 : sg σ n 5 ≠ NN := by
          intro q
          unfold frd at hf
          rw [if_pos q] at hf
          cases hf
        have h6 := (hs.2.2.2.2.2.1.resolve_left h5).1
        simp [hf, h6]
      · simp [hf]
  exact key _ (Nat.le_refl _)
theorem mul_le_of {a b x y n : Nat} (h1 : a ≤ x) (h2 : b ≤ y) (h : x * y ≤ n) : a * b ≤ n := Nat.le_trans (Nat.mul_le_mul h1 h2) h
theorem hlp_le {σ : Nat → Nat} {s c : Nat} (h : sg σ s 4 ≤ 1) : hlp σ s c ≤ 3 := by
  unfold hlp
  split <;> omega
theorem WF.hA {σ : Nat → Nat} {bd : Nat} (h : WF bd σ) (d c : Nat) : 3 ≤ hAll σ d c ∧ hAll σ d c ≤ 63 := by
  unfold hAll
  have q : sm (fun s => if hon σ d s then hlp σ s c else 0) (σ 1) ≤ σ 1 * 3 := sm_le _ (fun s hs => by
    have := hlp_le (σ := σ) (s := s) (c := c) (h.sb hs).2.2.2.2.1
    split <;> omega)
  have := h.n1
  omega
theorem WF.hO {σ : Nat → Nat} {bd : Nat} (h : WF bd σ) (d fi c f : Nat) : hOf σ d fi c f ≤ 63 := by
  unfold hOf
  have q : sm (fun s => if hon σ d s && decide (sg σ s 0 = f) then hlp σ s c else 0) (σ 1) ≤ σ 1 * 3 := sm_le _ (fun s hs => by
    have := hlp_le (σ := σ) (s := s) (c := c) (h.sb hs).2.2.2.2.1
    split <;> omega)
  have := h.n1
  split <;> omega
theorem WF.hN {σ : Nat → Nat} {bd : Nat} (h : WF bd σ) (d c n : Nat) (hn : n ≤ σ 1) : sm (fun s => if hon σ d s then hlp σ s c else 0) n ≤ 60 := by
  have q : sm (fun s => if hon σ d s then hlp σ s c else 0) n ≤ n * 3 := sm_le _ (fun s hs => by
    have := hlp_le (σ := σ) (s := s) (c := c) (h.sb (show s < σ 1 by omega)).2.2.2.2.1
    split <;> omega)
  have := h.n1
  omega
/-- what is wrong with asking for a dog -/
def fAsk (σ : Nat → Nat) (d : Int32) : Nat := if hasR (σ 0) d then (if msg σ d.toNatClampNeg then 0 else 3) else 1
theorem BR.gmx {σ : Nat → Nat} {b : Nat → Nat → Int32} {d : Nat} (h : BR σ b) (hn : σ 0 ≤ 6) (hd9 : d < 2 ^ 31) : getR (b 2) 11 (σ 0) (nI d) 5 = bI (decide (d < σ 0) && msg σ d) := by
  by_cases hd : d < σ 0
  · rw [h.gm hn hd]
    simp [hd]
  · unfold getR
    rw [if_neg (nI_pos hd9), if_pos (nI_le (by omega) hd9)]
    simp [hd, bI]
theorem BR.dd {σ : Nat → Nat} {b : Nat → Nat → Int32} (h : BR σ b) {d : Nat} (hd : d < σ 0) : BRd σ b d := h.1 d hd
