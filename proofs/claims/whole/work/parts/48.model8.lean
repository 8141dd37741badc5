/-! THE REFERENCE: texts' parts. -/
/-- a number's first unit, and what is left of it -/
def un : Nat → Nat
  | 0 => 0
  | k + 1 => 10 ^ k
theorem un_z {k : Nat} (h : un k ≤ 0) : k = 0 := by
  cases k with
  | zero => rfl
  | succ k => exact absurd h (Nat.not_le.mpr (Nat.pow_pos (by decide)))
theorem un_p {k : Nat} (h : 0 < un k) : 0 < k := by
  cases k with
  | zero => exact absurd h (Nat.lt_irrefl _)
  | succ k => exact Nat.succ_pos _
theorem un_d (k : Nat) : 10 ^ k / 10 = un k := by
  cases k with
  | zero => rfl
  | succ k => exact p10_s k
theorem un_lt {k : Nat} (h : k ≤ 3) : un k ≤ 100 := by
  cases k with
  | zero => exact Nat.zero_le _
  | succ k => exact p10_le2 (by omega)
/-- a part behind another; what was refused before stays refused -/
def fgF (tx : Nat → Nat) (ln v0 d lo hi p : Nat) : Nat × Nat := if v0 = NN then (NN, p) else ((if (itF tx ln d lo hi p).1 = true then (itF tx ln d lo hi p).2.1 else NN), (itF tx ln d lo hi p).2.2)
theorem fgF_NN {tx : Nat → Nat} {ln d lo hi p : Nat} : fgF tx ln NN d lo hi p = (NN, p) := if_pos rfl
theorem fgF_n {tx : Nat → Nat} {ln v0 d lo hi p : Nat} (h : v0 ≠ NN) : fgF tx ln v0 d lo hi p = ((if (itF tx ln d lo hi p).1 = true then (itF tx ln d lo hi p).2.1 else NN), (itF tx ln d lo hi p).2.2) := if_neg h
theorem fg_neg : ∀ t, t < 48 → inR (nI t - nI 48) (nI 0) (nI 9) = false := by decide +kernel
theorem fg_p {tx : Nat → Nat} {ln v0 d lo hi p : Nat} {r : Nat × Nat} (hr : r = fgF tx ln v0 d lo hi p) : p ≤ r.2 ∧ (r.2 ≤ p ∨ r.2 ≤ ln) := by
  subst hr
  unfold fgF
  split
  · exact ⟨Nat.le_refl _, Or.inl (Nat.le_refl _)⟩
  · exact itF_p
theorem fg_v {tx : Nat → Nat} {ln v0 d lo hi p : Nat} {r : Nat × Nat} (hh : hi ≤ 500) (hr : r = fgF tx ln v0 d lo hi p) : (r.1 = NN ∨ r.1 ≤ 501) ∧ r.1 < 2 ^ 32 := by
  have key : r.1 = NN ∨ r.1 ≤ 501 := by
    subst hr
    unfold fgF
    split
    · exact Or.inl rfl
    · have := itF_v (tx := tx) (ln := ln) (d := d) (lo := lo) (hi := hi) (p := p)
      show (if (itF tx ln d lo hi p).1 = true then (itF tx ln d lo hi p).2.1 else NN) = NN ∨ (if (itF tx ln d lo hi p).1 = true then (itF tx ln d lo hi p).2.1 else NN) ≤ 501
      split
      · exact Or.inr (by omega)
      · exact Or.inl rfl
  refine ⟨key, ?_⟩
  rcases key with e | e
  · rw [e]; decide
  · omega
theorem numF_r {tx : Nat → Nat} {ln lo hi : Nat} : ∀ k v p, (1 ≤ k ∨ lo ≤ v) → v ≤ hi → (numF tx ln lo hi k v p).1 = true → lo ≤ (numF tx ln lo hi k v p).2.1 ∧ (numF tx ln lo hi k v p).2.1 ≤ hi
  | 0, _, _, h1, h2, _ => ⟨by rcases h1 with h | h; omega; exact h, h2⟩
  | k + 1, v, p, _, h2, h3 => by
    by_cases q : p < ln ∧ 48 ≤ tx p ∧ tx p ≤ 57 ∧ v + (tx p - 48) * 10 ^ k ≤ hi ∧ lo < v + (tx p - 48) * 10 ^ k + 10 ^ k
    · rw [numF_yes q] at h3 ⊢
      refine numF_r k _ _ ?_ q.2.2.2.1 h3
      cases k with
      | zero => exact Or.inr (Nat.lt_succ_iff.mp q.2.2.2.2)
      | succ k => exact Or.inl (Nat.succ_pos _)
    · rw [numF_no q] at h3
      exact Bool.noConfusion h3
/-- a part that isn't refused: nor was the one before -/
theorem fg_r {tx : Nat → Nat} {ln v0 d lo hi p : Nat} {r : Nat × Nat} (hr : r = fgF tx ln v0 d lo hi p) (hd : 1 ≤ d) (h : r.1 ≠ NN) : v0 ≠ NN ∧ lo ≤ r.1 ∧ r.1 ≤ hi := by
  subst hr
  have hv : v0 ≠ NN := fun e => h (by rw [e, fgF_NN])
  refine ⟨hv, ?_⟩
  rw [fgF_n hv] at h ⊢
  have q : (itF tx ln d lo hi p).1 = true := by
    apply Classical.byContradiction
    intro c
    exact h (if_neg c)
  show lo ≤ (if (itF tx ln d lo hi p).1 = true then (itF tx ln d lo hi p).2.1 else NN) ∧ (if (itF tx ln d lo hi p).1 = true then (itF tx ln d lo hi p).2.1 else NN) ≤ hi
  rw [if_pos q]
  have e : itF tx ln d lo hi p = numF tx ln lo hi d 0 p := if_neg (by omega)
  rw [e] at q ⊢
  exact numF_r d 0 p (Or.inl hd) (Nat.zero_le _) q
theorem fg_pl {tx : Nat → Nat} {ln v0 p : Nat} {r : Nat × Nat} (hr : r = fgF tx ln v0 0 0 0 p) (h : r.1 ≠ NN) : v0 ≠ NN ∧ r.1 ≤ 1 := by
  subst hr
  have hv : v0 ≠ NN := fun e => h (by rw [e, fgF_NN])
  refine ⟨hv, ?_⟩
  rw [fgF_n hv] at h ⊢
  have q : (itF tx ln 0 0 0 p).1 = true := by
    apply Classical.byContradiction
    intro c
    exact h (if_neg c)
  show (if (itF tx ln 0 0 0 p).1 = true then (itF tx ln 0 0 0 p).2.1 else NN) ≤ 1
  rw [if_pos q]
  exact itF_v
/-- one step of a command's parts -/
theorem rdL_fg {tx : Nat → Nat} {ln v0 p i : Nat} {f : Nat → Nat} {x : Nat × Nat × Nat} {t : List (Nat × Nat × Nat)} {r : Nat × Nat} (hh : x.2.2 ≤ 500) (hv : v0 ≠ NN) (hr : r = fgF tx ln v0 x.1 x.2.1 x.2.2 p) :
    rdL tx ln (x :: t) p i f = if r.1 = NN then (false, r.2, f) else rdL tx ln t r.2 (i + 1) (up f i r.1) := by
  rw [fgF_n hv] at hr
  have hne : (itF tx ln x.1 x.2.1 x.2.2 p).2.1 ≠ NN := fun e => by
    have := itF_v (tx := tx) (ln := ln) (d := x.1) (lo := x.2.1) (hi := x.2.2) (p := p)
    rw [e] at this
    have h9 : NN ≤ 501 := by omega
    exact absurd h9 (by decide)
  subst hr
  by_cases q : (itF tx ln x.1 x.2.1 x.2.2 p).1 = true
  · refine (rdL_yes (d := x.1) (lo := x.2.1) (hi := x.2.2) rfl q).trans ?_
    simp only [if_pos q, if_neg hne]
  · refine (rdL_no (d := x.1) (lo := x.2.1) (hi := x.2.2) rfl (by simpa using q)).trans ?_
    simp only [if_neg q, if_true]
def nn9 (v : Nat) : Bool := !decide (v = NN)
theorem nn9_t {v : Nat} (h : v ≠ NN) : nn9 v = true := by unfold nn9; rw [decide_eq_false h]; rfl
theorem nn9_f {v : Nat} (h : v = NN) : nn9 v = false := by unfold nn9; rw [decide_eq_true h]; rfl
/-- what the parts say, where the last was not refused, and where it was -/
theorem rd1 {tx : Nat → Nat} {ln p : Nat} {f : Nat → Nat} {x1 : Nat × Nat × Nat} {r1 : Nat × Nat} (g1 : x1.2.2 ≤ 500) (h1 : r1 = fgF tx ln 0 x1.1 x1.2.1 x1.2.2 p) :
    (rdL tx ln [x1] p 0 f).1 = nn9 r1.1 ∧ (rdL tx ln [x1] p 0 f).2.1 = r1.2 ∧ (r1.1 ≠ NN → (rdL tx ln [x1] p 0 f).2.2 = up f 0 r1.1) := by
  rw [rdL_fg g1 (by decide) h1]
  by_cases q : r1.1 = NN
  · rw [if_pos q, nn9_f q]
    exact ⟨rfl, rfl, fun z => absurd q z⟩
  · rw [if_neg q, nn9_t q]
    exact ⟨rfl, rfl, fun _ => rfl⟩
theorem rd3 {tx : Nat → Nat} {ln p : Nat} {f : Nat → Nat} {x1 x2 x3 : Nat × Nat × Nat} {r1 r2 r3 : Nat × Nat} (g1 : x1.2.2 ≤ 500) (g2 : x2.2.2 ≤ 500) (g3 : x3.2.2 ≤ 500) (h1 : r1 = fgF tx ln 0 x1.1 x1.2.1 x1.2.2 p) (h2 : r2 = fgF tx ln r1.1 x2.1 x2.2.1 x2.2.2 r1.2) (h3 : r3 = fgF tx ln r2.1 x3.1 x3.2.1 x3.2.2 r2.2) :
    (rdL tx ln [x1, x2, x3] p 0 f).1 = nn9 r3.1 ∧ (rdL tx ln [x1, x2, x3] p 0 f).2.1 = r3.2 ∧ (r3.1 ≠ NN → (rdL tx ln [x1, x2, x3] p 0 f).2.2 = up (up (up f 0 r1.1) 1 r2.1) 2 r3.1) := by
  rw [rdL_fg g1 (by decide) h1]
  by_cases q : r1.1 = NN
  · rw [q, fgF_NN] at h2
    subst h2
    rw [fgF_NN] at h3
    subst h3
    rw [if_pos q, nn9_f rfl]
    exact ⟨rfl, rfl, fun z => absurd rfl z⟩
  · rw [if_neg q, rdL_fg g2 q h2]
    by_cases q2 : r2.1 = NN
    · rw [q2, fgF_NN] at h3
      subst h3
      rw [if_pos q2, nn9_f rfl]
      exact ⟨rfl, rfl, fun z => absurd rfl z⟩
    · rw [if_neg q2, rdL_fg g3 q2 h3]
      by_cases q3 : r3.1 = NN
      · rw [if_pos q3, nn9_f q3]
        exact ⟨rfl, rfl, fun z => absurd q3 z⟩
      · rw [if_neg q3, nn9_t q3]
        exact ⟨rfl, rfl, fun _ => rfl⟩
theorem rd4 {tx : Nat → Nat} {ln p : Nat} {f : Nat → Nat} {x1 x2 x3 x4 : Nat × Nat × Nat} {r1 r2 r3 r4 : Nat × Nat} (g1 : x1.2.2 ≤ 500) (g2 : x2.2.2 ≤ 500) (g3 : x3.2.2 ≤ 500) (g4 : x4.2.2 ≤ 500) (h1 : r1 = fgF tx ln 0 x1.1 x1.2.1 x1.2.2 p) (h2 : r2 = fgF tx ln r1.1 x2.1 x2.2.1 x2.2.2 r1.2) (h3 : r3 = fgF tx ln r2.1 x3.1 x3.2.1 x3.2.2 r2.2) (h4 : r4 = fgF tx ln r3.1 x4.1 x4.2.1 x4.2.2 r3.2) :
    (rdL tx ln [x1, x2, x3, x4] p 0 f).1 = nn9 r4.1 ∧ (rdL tx ln [x1, x2, x3, x4] p 0 f).2.1 = r4.2 ∧ (r4.1 ≠ NN → (rdL tx ln [x1, x2, x3, x4] p 0 f).2.2 = up (up (up (up f 0 r1.1) 1 r2.1) 2 r3.1) 3 r4.1) := by
  rw [rdL_fg g1 (by decide) h1]
  by_cases q : r1.1 = NN
  · rw [q, fgF_NN] at h2
    subst h2
    rw [fgF_NN] at h3
    subst h3
    rw [fgF_NN] at h4
    subst h4
    rw [if_pos q, nn9_f rfl]
    exact ⟨rfl, rfl, fun z => absurd rfl z⟩
  · rw [if_neg q, rdL_fg g2 q h2]
    by_cases q2 : r2.1 = NN
    · rw [q2, fgF_NN] at h3
      subst h3
      rw [fgF_NN] at h4
      subst h4
      rw [if_pos q2, nn9_f rfl]
      exact ⟨rfl, rfl, fun z => absurd rfl z⟩
    · rw [if_neg q2, rdL_fg g3 q2 h3]
      by_cases q3 : r3.1 = NN
      · rw [q3, fgF_NN] at h4
        subst h4
        rw [if_pos q3, nn9_f rfl]
        exact ⟨rfl, rfl, fun z => absurd rfl z⟩
      · rw [if_neg q3, rdL_fg g4 q3 h4]
        by_cases q4 : r4.1 = NN
        · rw [if_pos q4, nn9_f q4]
          exact ⟨rfl, rfl, fun z => absurd q4 z⟩
        · rw [if_neg q4, nn9_t q4]
          exact ⟨rfl, rfl, fun _ => rfl⟩
