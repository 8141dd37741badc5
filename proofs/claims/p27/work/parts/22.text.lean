/-! TEXTS: how a text is read, command by command; what a command does. -/
def sgn (tx : Nat → Nat) (ln p : Nat) : Nat := if p < ln then tx p else NN
/-- a number of k more digits, v so far: is it allowed, its value, where the reader stands -/
def numF (tx : Nat → Nat) (ln lo hi : Nat) : Nat → Nat → Nat → Bool × Nat × Nat
  | 0, v, p => (true, v, p)
  | k + 1, v, p => if p < ln ∧ 48 ≤ tx p ∧ tx p ≤ 57 ∧ v + (tx p - 48) * 10 ^ k ≤ hi ∧ lo < v + (tx p - 48) * 10 ^ k + 10 ^ k then numF tx ln lo hi k (v + (tx p - 48) * 10 ^ k) (p + 1) else (false, v, p)
/-- a plus or a minus -/
def plF9 (tx : Nat → Nat) (ln p : Nat) : Bool × Nat × Nat := if p < ln ∧ (tx p = 43 ∨ tx p = 45) then (true, (if tx p = 43 then 1 else 0), p + 1) else (false, 0, p)
def itF (tx : Nat → Nat) (ln dgs lo hi p : Nat) : Bool × Nat × Nat := if dgs = 0 then plF9 tx ln p else numF tx ln lo hi dgs 0 p
/-- a command's parts, one behind another -/
def rdL (tx : Nat → Nat) (ln : Nat) : List (Nat × Nat × Nat) → Nat → Nat → (Nat → Nat) → Bool × Nat × (Nat → Nat)
  | [], p, _, f => (true, p, f)
  | x :: t, p, i, f => if (itF tx ln x.1 x.2.1 x.2.2 p).1 = true then rdL tx ln t (itF tx ln x.1 x.2.1 x.2.2 p).2.2 (i + 1) (up f i (itF tx ln x.1 x.2.1 x.2.2 p).2.1) else (false, (itF tx ln x.1 x.2.1 x.2.2 p).2.2, f)
def lsD9 : List (Nat × Nat × Nat) := [(3, 1, 255), (1, 1, 3), (2, 0, 11), (3, 1, 500)]
def lsS9 : List (Nat × Nat × Nat) := [(1, 0, 7), (2, 0, 11), (3, 0, 255), (0, 0, 0)]
def lsF9 : List (Nat × Nat × Nat) := [(1, 0, 5), (1, 0, 7), (2, 0, 11)]
def lsX9 : List (Nat × Nat × Nat) := [(2, 0, 11), (2, 0, 11), (0, 0, 0)]
def lsH9 : List (Nat × Nat × Nat) := [(2, 1, 99)]
/-- one command at p: is it allowed, where the reader stands, the parts -/
def cmdF (tx : Nat → Nat) (ln p : Nat) (f : Nat → Nat) : Bool × Nat × (Nat → Nat) :=
  if nI (sgn tx ln p) = nI 100 then rdL tx ln lsD9 (p + 1) 0 f else if nI (sgn tx ln p) = nI 102 then rdL tx ln lsF9 (p + 1) 0 f else if nI (sgn tx ln p) = nI 104 then rdL tx ln lsH9 (p + 1) 0 f
  else if nI (sgn tx ln p) = nI 115 then rdL tx ln lsS9 (p + 1) 0 f else if nI (sgn tx ln p) = nI 120 then rdL tx ln lsX9 (p + 1) 0 f else (false, p, f)
/-- how many parts a command has -/
def npt (lt : Nat) : Nat := if nI lt = nI 100 then 4 else if nI lt = nI 102 then 3 else if nI lt = nI 104 then 1 else if nI lt = nI 115 then 4 else if nI lt = nI 120 then 3 else 0
theorem rdL_yes {tx : Nat → Nat} {ln d lo hi p i : Nat} {f : Nat → Nat} {t : List (Nat × Nat × Nat)} {r : Bool × Nat × Nat} (hr : r = itF tx ln d lo hi p) (c : r.1 = true) : rdL tx ln ((d, lo, hi) :: t) p i f = rdL tx ln t r.2.2 (i + 1) (up f i r.2.1) := by
  subst hr
  exact if_pos c
theorem rdL_no {tx : Nat → Nat} {ln d lo hi p i : Nat} {f : Nat → Nat} {t : List (Nat × Nat × Nat)} {r : Bool × Nat × Nat} (hr : r = itF tx ln d lo hi p) (c : r.1 = false) : rdL tx ln ((d, lo, hi) :: t) p i f = (false, r.2.2, f) := by
  subst hr
  exact if_neg (by rw [c]; decide)
theorem p10_le {k : Nat} (h : k ≤ 3) : 10 ^ k ≤ 1000 := Nat.pow_le_pow_right (n := 10) (by decide) h
theorem p10_le2 {k : Nat} (h : k ≤ 2) : 10 ^ k ≤ 100 := Nat.pow_le_pow_right (n := 10) (by decide) h
theorem p10_pos (k : Nat) : 1 ≤ 10 ^ k := Nat.pow_pos (by decide)
theorem p10_s (k : Nat) : 10 ^ (k + 1) / 10 = 10 ^ k := by rw [Nat.pow_succ]; exact Nat.mul_div_cancel _ (by decide)
theorem numF_yes {tx : Nat → Nat} {ln lo hi k v p : Nat} (h : p < ln ∧ 48 ≤ tx p ∧ tx p ≤ 57 ∧ v + (tx p - 48) * 10 ^ k ≤ hi ∧ lo < v + (tx p - 48) * 10 ^ k + 10 ^ k) : numF tx ln lo hi (k + 1) v p = numF tx ln lo hi k (v + (tx p - 48) * 10 ^ k) (p + 1) := if_pos h
theorem numF_no {tx : Nat → Nat} {ln lo hi k v p : Nat} (h : ¬ (p < ln ∧ 48 ≤ tx p ∧ tx p ≤ 57 ∧ v + (tx p - 48) * 10 ^ k ≤ hi ∧ lo < v + (tx p - 48) * 10 ^ k + 10 ^ k)) : numF tx ln lo hi (k + 1) v p = (false, v, p) := if_neg h
theorem numF_v {tx : Nat → Nat} {ln lo hi : Nat} : ∀ k v p, v ≤ hi → (numF tx ln lo hi k v p).2.1 ≤ hi
  | 0, _, _, h => h
  | k + 1, v, p, h => by
    by_cases q : p < ln ∧ 48 ≤ tx p ∧ tx p ≤ 57 ∧ v + (tx p - 48) * 10 ^ k ≤ hi ∧ lo < v + (tx p - 48) * 10 ^ k + 10 ^ k
    · rw [numF_yes q]
      exact numF_v k _ _ q.2.2.2.1
    · rw [numF_no q]
      exact h
theorem numF_p {tx : Nat → Nat} {ln lo hi : Nat} : ∀ k v p, p ≤ (numF tx ln lo hi k v p).2.2 ∧ ((numF tx ln lo hi k v p).2.2 ≤ p ∨ (numF tx ln lo hi k v p).2.2 ≤ ln)
  | 0, _, p => ⟨Nat.le_refl _, Or.inl (Nat.le_refl _)⟩
  | k + 1, v, p => by
    by_cases q : p < ln ∧ 48 ≤ tx p ∧ tx p ≤ 57 ∧ v + (tx p - 48) * 10 ^ k ≤ hi ∧ lo < v + (tx p - 48) * 10 ^ k + 10 ^ k
    · rw [numF_yes q]
      have h := numF_p (tx := tx) (ln := ln) (lo := lo) (hi := hi) k (v + (tx p - 48) * 10 ^ k) (p + 1)
      exact ⟨by omega, by omega⟩
    · rw [numF_no q]
      exact ⟨Nat.le_refl _, Or.inl (Nat.le_refl _)⟩
theorem itF_p {tx : Nat → Nat} {ln d lo hi p : Nat} : p ≤ (itF tx ln d lo hi p).2.2 ∧ ((itF tx ln d lo hi p).2.2 ≤ p ∨ (itF tx ln d lo hi p).2.2 ≤ ln) := by
  unfold itF
  split
  · unfold plF9
    split
    · exact ⟨Nat.le_succ _, Or.inr (by show p + 1 ≤ ln; omega)⟩
    · exact ⟨Nat.le_refl _, Or.inl (Nat.le_refl _)⟩
  · exact numF_p _ _ _
theorem itF_v {tx : Nat → Nat} {ln d lo hi p : Nat} : (itF tx ln d lo hi p).2.1 ≤ hi + 1 := by
  unfold itF
  split
  · unfold plF9
    split
    · show (if tx p = 43 then 1 else 0) ≤ hi + 1
      split <;> omega
    · exact Nat.zero_le _
  · exact Nat.le_trans (numF_v _ _ _ (Nat.zero_le _)) (Nat.le_succ _)
theorem rdL_p {tx : Nat → Nat} {ln : Nat} : ∀ (L : List (Nat × Nat × Nat)) (p i : Nat) (f : Nat → Nat), p ≤ (rdL tx ln L p i f).2.1 ∧ ((rdL tx ln L p i f).2.1 ≤ p ∨ (rdL tx ln L p i f).2.1 ≤ ln)
  | [], p, _, _ => ⟨Nat.le_refl _, Or.inl (Nat.le_refl _)⟩
  | x :: t, p, i, f => by
    have h1 := itF_p (tx := tx) (ln := ln) (d := x.1) (lo := x.2.1) (hi := x.2.2) (p := p)
    unfold rdL
    split
    · have h2 := rdL_p (tx := tx) (ln := ln) t (itF tx ln x.1 x.2.1 x.2.2 p).2.2 (i + 1) (up f i (itF tx ln x.1 x.2.1 x.2.2 p).2.1)
      exact ⟨by omega, by omega⟩
    · exact h1
/-- what was in the parts before doesn't matter -/
theorem rdL_f {tx : Nat → Nat} {ln : Nat} : ∀ (L : List (Nat × Nat × Nat)) (p i : Nat) (f f' : Nat → Nat), (rdL tx ln L p i f).1 = (rdL tx ln L p i f').1 ∧ (rdL tx ln L p i f).2.1 = (rdL tx ln L p i f').2.1 ∧
    ((∀ j, j < i → f j = f' j) → (rdL tx ln L p i f).1 = true → ∀ j, j < i + L.length → (rdL tx ln L p i f).2.2 j = (rdL tx ln L p i f').2.2 j)
  | [], _, _, _, _ => ⟨rfl, rfl, fun h _ => h⟩
  | x :: t, p, i, f, f' => by
    unfold rdL
    split
    · obtain ⟨h1, h2, h3⟩ := rdL_f t (itF tx ln x.1 x.2.1 x.2.2 p).2.2 (i + 1) (up f i (itF tx ln x.1 x.2.1 x.2.2 p).2.1) (up f' i (itF tx ln x.1 x.2.1 x.2.2 p).2.1)
      refine ⟨h1, h2, fun g c j hj => h3 (fun j hj => ?_) c j (by rw [List.length_cons] at hj; omega)⟩
      by_cases e : j = i
      · subst e; rw [up_s, up_s]
      · rw [up_n e, up_n e]; exact g j (by omega)
    · exact ⟨rfl, rfl, fun _ c => Bool.noConfusion c⟩
theorem cmdF_f {tx : Nat → Nat} {ln p : Nat} (f f' : Nat → Nat) : (cmdF tx ln p f).1 = (cmdF tx ln p f').1 ∧ (cmdF tx ln p f).2.1 = (cmdF tx ln p f').2.1 := by
  unfold cmdF
  split
  · exact ⟨(rdL_f _ _ _ _ _).1, (rdL_f _ _ _ _ _).2.1⟩
  · split
    · exact ⟨(rdL_f _ _ _ _ _).1, (rdL_f _ _ _ _ _).2.1⟩
    · split
      · exact ⟨(rdL_f _ _ _ _ _).1, (rdL_f _ _ _ _ _).2.1⟩
      · split
        · exact ⟨(rdL_f _ _ _ _ _).1, (rdL_f _ _ _ _ _).2.1⟩
        · split
          · exact ⟨(rdL_f _ _ _ _ _).1, (rdL_f _ _ _ _ _).2.1⟩
          · exact ⟨rfl, rfl⟩
theorem cmdF_p {tx : Nat → Nat} {ln p : Nat} {f : Nat → Nat} (hp : p < ln) : p ≤ (cmdF tx ln p f).2.1 ∧ (cmdF tx ln p f).2.1 ≤ ln ∧ ((cmdF tx ln p f).1 = true → p < (cmdF tx ln p f).2.1) := by
  have key : ∀ L, p ≤ (rdL tx ln L (p + 1) 0 f).2.1 ∧ (rdL tx ln L (p + 1) 0 f).2.1 ≤ ln ∧ ((rdL tx ln L (p + 1) 0 f).1 = true → p < (rdL tx ln L (p + 1) 0 f).2.1) := fun L => by
    have h := rdL_p (tx := tx) (ln := ln) L (p + 1) 0 f
    exact ⟨by omega, by omega, fun _ => by omega⟩
  unfold cmdF
  split
  · exact key _
  · split
    · exact key _
    · split
      · exact key _
      · split
        · exact key _
        · split
          · exact key _
          · exact ⟨Nat.le_refl _, Nat.le_of_lt hp, fun h => Bool.noConfusion h⟩
def z9 : Nat → Nat := fun _ => 0
/-- the rest of a text: is it allowed, where the reader stands -/
def txF (tx : Nat → Nat) (ln : Nat) : Nat → Nat → Bool × Nat
  | 0, p => (true, p)
  | n + 1, p => if p < ln then (if (cmdF tx ln p z9).1 = true then txF tx ln n (cmdF tx ln p z9).2.1 else (false, (cmdF tx ln p z9).2.1)) else (true, p)
/-- the error position -/
def erF (tx : Nat → Nat) (ln : Nat) : Nat := if sgn tx ln 0 = 77 then (if (txF tx ln 120 1).1 = true then NN else (txF tx ln 120 1).2) else 0
theorem txF_p {tx : Nat → Nat} {ln : Nat} : ∀ n p, p ≤ ln → (txF tx ln n p).2 ≤ ln
  | 0, _, h => h
  | n + 1, p, h => by
    unfold txF
    split
    · rename_i hp
      have h1 := cmdF_p (tx := tx) (f := z9) hp
      split
      · exact txF_p n _ h1.2.1
      · exact h1.2.1
    · exact h
/-- what a command of a text does to the state, and answers -/
def doR (lt : Nat) (f : Nat → Nat) (σ : Nat → Nat) : Nat → Nat :=
  if nI lt = nI 100 then loseR σ (nI (f 0)) (nI (f 1)) (nI (f 2)) (nI (f 3)) else if nI lt = nI 102 then findR σ (nI (f 0)) (nI (f 1)) (nI (f 2)) else if nI lt = nI 104 then hoursR σ (nI (f 0))
  else if nI lt = nI 115 then sightR σ (nI (f 0)) (nI (f 1)) (nI (f 2)) (nI 0) (decide (nI (f 3) = nI 1)) else if nI lt = nI 120 then closeR σ (nI (f 0)) (nI (f 1)) (decide (nI (f 2) = nI 1)) else σ
def doA (lt : Nat) (f : Nat → Nat) (σ : Nat → Nat) : Nat :=
  if nI lt = nI 100 then (if fLose σ (nI (f 0)) (nI (f 1)) (nI (f 2)) (nI (f 3)) = 0 then σ 0 else NN2) else if nI lt = nI 102 then findA σ (nI (f 0)) (nI (f 1)) (nI (f 2)) else if nI lt = nI 104 then hoursA σ (nI (f 0))
  else if nI lt = nI 115 then sightA σ (nI (f 0)) (nI (f 1)) (nI (f 2)) (nI 0) else if nI lt = nI 120 then closeA σ (nI (f 0)) (nI (f 1)) (decide (nI (f 2) = nI 1)) else NN2
theorem er_step {tx : Nat → Nat} {ln q n : Nat} {f : Nat → Nat} {u : Bool × Nat × (Nat → Nat)} (hq : q < ln) (hu : u = cmdF tx ln q f) : (if (txF tx ln (n + 1) q).1 = true then NN else (txF tx ln (n + 1) q).2) = if u.1 = true then (if (txF tx ln n u.2.1).1 = true then NN else (txF tx ln n u.2.1).2) else u.2.1 := by
  subst hu
  have e1 := (cmdF_f (tx := tx) (ln := ln) (p := q) f z9).1
  have e2 := (cmdF_f (tx := tx) (ln := ln) (p := q) f z9).2
  have e3 : txF tx ln (n + 1) q = if (cmdF tx ln q z9).1 = true then txF tx ln n (cmdF tx ln q z9).2.1 else (false, (cmdF tx ln q z9).2.1) := if_pos hq
  rw [e3, e1, e2]
  by_cases c : (cmdF tx ln q z9).1 = true
  · rw [if_pos c, if_pos c]
  · rw [if_neg c, if_neg c]
    exact if_neg Bool.false_ne_true
theorem er_end {tx : Nat → Nat} {ln q i : Nat} {a : Bool} (h : 120 ≤ i ∨ a = false ∨ ¬ q < ln) : (if a = true then (if (txF tx ln (120 - i) q).1 = true then NN else (txF tx ln (120 - i) q).2) else q) = if a = true then NN else q := by
  rcases h with h | h | h
  · rw [show 120 - i = 0 by omega]
    rfl
  · rw [h]
    rfl
  · have e : txF tx ln (120 - i) q = (true, q) := by
      cases 120 - i with
      | zero => rfl
      | succ n => exact if_neg h
    rw [e]
    rfl
