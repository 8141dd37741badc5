/-! THE BOARD'S STATE, as a row of naturals (the reference's own row), and what it means.
Places: 0 dogs, 1 sightings, 2 hour, 3 paid, 4 given, 5 stayed, 6 growth, 7 most unlike, 8 purses, 16 streets, 40 + 8 d dogs, 88 + 8 s sightings. -/
def ex (p : Nat → Bool) : Nat → Bool
  | 0 => false
  | n + 1 => ex p n || p n
def al (p : Nat → Bool) : Nat → Bool
  | 0 => true
  | n + 1 => al p n && p n
def sm (f : Nat → Nat) : Nat → Nat
  | 0 => 0
  | n + 1 => sm f n + f n
theorem ex_iff {p : Nat → Bool} : ∀ {n : Nat}, ex p n = true ↔ ∃ i, i < n ∧ p i = true
  | 0 => by simp [ex]
  | n + 1 => by
    simp only [ex, Bool.or_eq_true, ex_iff (n := n)]
    constructor
    · rintro (⟨i, h1, h2⟩ | h)
      · exact ⟨i, by omega, h2⟩
      · exact ⟨n, by omega, h⟩
    · rintro ⟨i, h1, h2⟩
      by_cases h : i = n
      · subst h; exact Or.inr h2
      · exact Or.inl ⟨i, by omega, h2⟩
theorem ex_no {p : Nat → Bool} {n : Nat} : ex p n = false ↔ ∀ i, i < n → p i = false := by
  constructor
  · intro h i hi
    apply Classical.byContradiction
    intro q
    have e := ex_iff.mpr ⟨i, hi, by simpa using q⟩
    rw [h] at e
    cases e
  · intro h
    apply Classical.byContradiction
    intro q
    obtain ⟨i, h1, h2⟩ := ex_iff.mp (by simpa using q : ex p n = true)
    rw [h i h1] at h2
    cases h2
theorem al_iff {p : Nat → Bool} : ∀ {n : Nat}, al p n = true ↔ ∀ i, i < n → p i = true
  | 0 => by simp [al]
  | n + 1 => by
    simp only [al, Bool.and_eq_true, al_iff (n := n)]
    constructor
    · rintro ⟨h1, h2⟩ i hi
      by_cases h : i = n
      · subst h; exact h2
      · exact h1 i (by omega)
    · intro h
      exact ⟨fun i hi => h i (by omega), h n (by omega)⟩
theorem ex_congr {p q : Nat → Bool} : ∀ n, (∀ i, i < n → p i = q i) → ex p n = ex q n
  | 0, _ => rfl
  | n + 1, h => by
    show (ex p n || p n) = (ex q n || q n)
    rw [ex_congr n (fun i hi => h i (by omega)), h n (by omega)]
theorem al_congr {p q : Nat → Bool} : ∀ n, (∀ i, i < n → p i = q i) → al p n = al q n
  | 0, _ => rfl
  | n + 1, h => by
    show (al p n && p n) = (al q n && q n)
    rw [al_congr n (fun i hi => h i (by omega)), h n (by omega)]
theorem sm_congr {f h : Nat → Nat} : ∀ n, (∀ i, i < n → f i = h i) → sm f n = sm h n
  | 0, _ => rfl
  | n + 1, e => by
    show sm f n + f n = sm h n + h n
    rw [sm_congr n (fun i hi => e i (by omega)), e n (by omega)]
theorem sm_le {f : Nat → Nat} {c : Nat} : ∀ n, (∀ i, i < n → f i ≤ c) → sm f n ≤ n * c
  | 0, _ => by simp [sm]
  | n + 1, e => by
    have h := sm_le n (fun i hi => e i (by omega))
    have h2 := e n (by omega)
    show sm f n + f n ≤ (n + 1) * c
    rw [Nat.add_mul]
    omega
theorem ct_sm (p : Nat → Bool) : ∀ n, ct p n = sm (fun i => if p i then 1 else 0) n
  | 0 => rfl
  | n + 1 => by
    show ct p n + _ = sm _ n + _
    rw [ct_sm p n]
/-- dogs: is it missing -/
def msg (σ : Nat → Nat) (d : Nat) : Bool := decide (dg σ d 5 = NN)
/-- marks that are unlike -/
def unl (σ : Nat → Nat) (d m : Nat) : Nat := ct (dg σ d 0 ^^^ m).testBit 24
def ad (x y : Nat) : Nat := if x < y then y - x else x - y
/-- a sighting is true to the dog that it means -/
def tru (σ : Nat → Nat) (s : Nat) : Bool := if msg σ (sg σ s 5) then rch σ (dg σ (sg σ s 5) 2) (sg σ s 1) (dg σ (sg σ s 5) 1 * (sg σ s 2 - dg σ (sg σ s 5) 3)) else decide (sg σ s 6 = 1)
/-- two sightings fit -/
def fit (σ : Nat → Nat) (s o : Nat) : Bool := rch σ (sg σ s 1) (sg σ o 1) (dg σ (sg σ s 5) 1 * ad (sg σ s 2) (sg σ o 2))
def oth (σ : Nat → Nat) (s o : Nat) : Bool := decide (o ≠ s) && (decide (sg σ o 5 = sg σ s 5) && tru σ o)
def frd (σ : Nat → Nat) (s : Nat) : Bool :=
  if sg σ s 5 = NN then false else if msg σ (sg σ s 5) then (if tru σ s then (if sg σ s 4 = 1 then false else ex (oth σ s) (σ 1) && !ex (fun o => oth σ s o && fit σ s o) (σ 1)) else true) else decide (sg σ s 7 = 1)
/-- the sightings of a dog: that mean it; true; frauds; honest -/
def mng (σ : Nat → Nat) (d s : Nat) : Bool := decide (sg σ s 5 = d)
def trD (σ : Nat → Nat) (d s : Nat) : Bool := mng σ d s && tru σ s
def frD (σ : Nat → Nat) (d s : Nat) : Bool := mng σ d s && frd σ s
def hon (σ : Nat → Nat) (d s : Nat) : Bool := mng σ d s && !frd σ s
/-- where a dog can be -/
def cbe (σ : Nat → Nat) (d c : Nat) : Bool := rch σ (dg σ d 2) c (dg σ d 1 * (σ 2 - dg σ d 3)) && al (fun s => !hon σ d s || rch σ (sg σ s 1) c (dg σ d 1 * (σ 2 - sg σ s 2))) (σ 1)
/-- how much a sighting helps, all help, a finder's help, a finder's share -/
def hlp (σ : Nat → Nat) (s c : Nat) : Nat := 1 + sg σ s 4 + (if rch σ (sg σ s 1) c 1 then 1 else 0)
def hAll (σ : Nat → Nat) (d c : Nat) : Nat := 3 + sm (fun s => if hon σ d s then hlp σ s c else 0) (σ 1)
def hOf (σ : Nat → Nat) (d fi c f : Nat) : Nat := (if f = fi then 3 else 0) + sm (fun s => if hon σ d s && decide (sg σ s 0 = f) then hlp σ s c else 0) (σ 1)
def shr (σ : Nat → Nat) (d fi c f : Nat) : Nat := dg σ d 4 * hOf σ d fi c f / hAll σ d c
/-- the dog that marks mean at an hour: as the reference looks for it, of the first n dogs -/
def bst (σ : Nat → Nat) (m h : Nat) : Nat → Nat
  | 0 => NN
  | d + 1 => if msg σ d && decide (dg σ d 3 ≤ h) then (if bst σ m h d = NN then d else if unl σ d m < unl σ (bst σ m h d) m ∨ (unl σ d m = unl σ (bst σ m h d) m ∧ dg σ (bst σ m h d) 4 < dg σ d 4) then d else bst σ m h d) else bst σ m h d
def mea (σ : Nat → Nat) (m h : Nat) : Nat := if bst σ m h (σ 0) ≠ NN ∧ unl σ (bst σ m h (σ 0)) m ≤ σ 7 then bst σ m h (σ 0) else NN
/-- what holds of every state that calls can make; hb: no hour is later -/
def wfD (σ : Nat → Nat) (d : Nat) : Prop := dg σ d 0 < 256 ∧ 1 ≤ dg σ d 1 ∧ dg σ d 1 ≤ 3 ∧ dg σ d 2 < 12 ∧ dg σ d 3 ≤ σ 2 ∧ dg σ d 4 ≤ 500 + 50 * ((σ 2 - dg σ d 3) / 24) ∧ dg σ d 5 < 2 ^ 32
def wfS (σ : Nat → Nat) (s : Nat) : Prop := sg σ s 0 < 8 ∧ sg σ s 1 < 12 ∧ sg σ s 2 ≤ σ 2 ∧ sg σ s 3 < 256 ∧ sg σ s 4 ≤ 1 ∧ (sg σ s 5 = NN ∨ (sg σ s 5 < σ 0 ∧ dg σ (sg σ s 5) 3 ≤ sg σ s 2)) ∧ sg σ s 6 ≤ 1 ∧ sg σ s 7 ≤ 1
def WF (hb : Nat) (σ : Nat → Nat) : Prop := hb ≤ 100000 ∧ σ 2 ≤ hb ∧ σ 0 ≤ 6 ∧ σ 1 ≤ 20 ∧ σ 6 ≤ 50 ∧ σ 7 ≤ 8 ∧ (∀ d, d < σ 0 → wfD σ d) ∧ (∀ s, s < σ 1 → wfS σ s) ∧ (∀ i, 16 ≤ i → i < 40 → σ i ≤ 1 ∧ ((∀ k, k < 17 → spl k ≠ i) → σ i = 0))
/-- which streets are closed, as bits -/
def cmk (σ : Nat → Nat) : Nat := mk (fun k => !decide (σ (spl k) = 0)) 17
theorem cmk_RC (σ : Nat → Nat) : RC σ (cmk σ) := ⟨mk_lt _ _, fun k hk => by unfold cmk; rw [mk_bit]; simp [hk]⟩
/-- a board of the class: its dogs' and sightings' rows are the state's -/
def stT (σ : Nat → Nat) (d s : Nat) : Bool := mng σ d s && decide (sg σ s 6 = 1)
def stF (σ : Nat → Nat) (d s : Nat) : Bool := mng σ d s && decide (sg σ s 7 = 1)
def BRd (σ : Nat → Nat) (b : Nat → Nat → Int32) (d : Nat) : Prop :=
  (∀ k, k < 5 → b 2 (d * 11 + k) = nI (dg σ d k)) ∧ b 2 (d * 11 + 5) = bI (msg σ d) ∧ (∀ k, k < 3 → b 2 (d * 11 + (6 + k)) = nI (dg σ d (5 + k))) ∧
  (msg σ d = false → b 2 (d * 11 + 9) = nI (mk (stT σ d) (σ 1)) ∧ b 2 (d * 11 + 10) = nI (mk (stF σ d) (σ 1)))
def BR (σ : Nat → Nat) (b : Nat → Nat → Int32) : Prop := (∀ d, d < σ 0 → BRd σ b d) ∧ (∀ s, s < σ 1 → ∀ k, k < 6 → b 3 (s * 6 + k) = nI (sg σ s k))
/-- the purses -/
def pu (σ : Nat → Nat) (f : Nat) : Nat := σ (8 + f)
section RD
variable {σ : Nat → Nat} {b : Nat → Nat → Int32} {d s k hb : Nat}
theorem BR.gd (h : BR σ b) (hn : σ 0 ≤ 6) (hd : d < σ 0) (hk : k < 5) : getR (b 2) 11 (σ 0) (nI d) k = nI (dg σ d k) := by
  rw [getR_n hd (by omega)]; exact (h.1 d hd).1 k hk
theorem BR.gm (h : BR σ b) (hn : σ 0 ≤ 6) (hd : d < σ 0) : getR (b 2) 11 (σ 0) (nI d) 5 = bI (msg σ d) := by
  rw [getR_n hd (by omega)]; exact (h.1 d hd).2.1
theorem BR.gf (h : BR σ b) (hn : σ 0 ≤ 6) (hd : d < σ 0) (hk : k < 3) : getR (b 2) 11 (σ 0) (nI d) (6 + k) = nI (dg σ d (5 + k)) := by
  rw [getR_n hd (by omega)]; exact (h.1 d hd).2.2.1 k hk
theorem BR.g9 (h : BR σ b) (hn : σ 0 ≤ 6) (hd : d < σ 0) (hm : msg σ d = false) : getR (b 2) 11 (σ 0) (nI d) 9 = nI (mk (stT σ d) (σ 1)) := by
  rw [getR_n hd (by omega)]; exact ((h.1 d hd).2.2.2 hm).1
theorem BR.g10 (h : BR σ b) (hn : σ 0 ≤ 6) (hd : d < σ 0) (hm : msg σ d = false) : getR (b 2) 11 (σ 0) (nI d) 10 = nI (mk (stF σ d) (σ 1)) := by
  rw [getR_n hd (by omega)]; exact ((h.1 d hd).2.2.2 hm).2
theorem BR.gs (h : BR σ b) (hn : σ 1 ≤ 20) (hs : s < σ 1) (hk : k < 6) : getR (b 3) 6 (σ 1) (nI s) k = nI (sg σ s k) := by
  rw [getR_n hs (by omega)]; exact h.2 s hs k hk
theorem WF.n0 (h : WF hb σ) : σ 0 ≤ 6 := h.2.2.1
theorem WF.n1 (h : WF hb σ) : σ 1 ≤ 20 := h.2.2.2.1
theorem WF.h2 (h : WF hb σ) : σ 2 ≤ 100000 := Nat.le_trans h.2.1 h.1
theorem WF.dd (h : WF hb σ) (hd : d < σ 0) : wfD σ d := h.2.2.2.2.2.2.1 d hd
theorem WF.ss (h : WF hb σ) (hs : s < σ 1) : wfS σ s := h.2.2.2.2.2.2.2.1 s hs
/-- the bounds of a dog's numbers, for omega -/
theorem WF.db (h : WF hb σ) (hd : d < σ 0) : dg σ d 0 < 256 ∧ 1 ≤ dg σ d 1 ∧ dg σ d 1 ≤ 3 ∧ dg σ d 2 < 12 ∧ dg σ d 3 ≤ σ 2 ∧ dg σ d 4 ≤ 210000 ∧ dg σ d 5 < 2 ^ 32 := by
  obtain ⟨h1, h2, h3, h4, h5, h6, h7⟩ := h.dd hd
  have := h.h2
  have q : (σ 2 - dg σ d 3) / 24 ≤ 4166 := by omega
  exact ⟨h1, h2, h3, h4, h5, by omega, h7⟩
theorem WF.sb (h : WF hb σ) (hs : s < σ 1) : sg σ s 0 < 8 ∧ sg σ s 1 < 12 ∧ sg σ s 2 ≤ σ 2 ∧ sg σ s 3 < 256 ∧ sg σ s 4 ≤ 1 ∧ sg σ s 5 < 2 ^ 32 ∧ sg σ s 6 ≤ 1 ∧ sg σ s 7 ≤ 1 := by
  obtain ⟨h1, h2, h3, h4, h5, h6, h7, h8⟩ := h.ss hs
  have := h.n0
  have q : sg σ s 5 < 2 ^ 32 := by
    rcases h6 with e | e
    · rw [e]; decide
    · omega
  exact ⟨h1, h2, h3, h4, h5, q, h7, h8⟩
/-- the dog that a sighting means -/
theorem WF.mean (h : WF hb σ) (hs : s < σ 1) (hd : d < σ 0) (hm : sg σ s 5 = d) : dg σ d 3 ≤ sg σ s 2 := by
  rcases (h.ss hs).2.2.2.2.2.1 with e | e
  · have := h.n0
    rw [hm] at e
    have : d < 6 := by omega
    rw [e] at this
    exact absurd this (by decide)
  · rw [← hm]; exact e.2
theorem WF.nn (h : WF hb σ) (hd : d < σ 0) : d ≠ NN := by
  have := h.n0
  intro e
  have h1 : d < 6 := by omega
  rw [e] at h1
  exact absurd h1 (by decide)
end RD
theorem unl_le {σ : Nat → Nat} {d m : Nat} : unl σ d m ≤ 24 := ct_le _ _
theorem nb_diffN {p q : Nat → Bool} {n : Nat} (hn : n < 32) : nI (mk p n &&& (mk q n ^^^ NN)) = nI (mk (fun i => p i && !q i) n) := by
  rw [← nx_and, ← nx_xor, nI_NN]; exact nb_diff hn
theorem nb_butN {p : Nat → Bool} {n k : Nat} (hk : k < n) (hn : n < 32) : nI (mk p n &&& (2 ^ k ^^^ NN)) = nI (mk (fun i => p i && !decide (i = k)) n) := by
  rw [← nx_and, ← nx_xor, nI_NN]; exact nb_but hk hn
/-- one more bit, at any place below n -/
theorem nb_orb {p : Nat → Bool} {n e : Nat} (he : e < n) : mk p n ||| 2 ^ e = mk (fun i => p i || decide (e = i)) n := by
  apply mk_ext (Nat.or_lt_two_pow (mk_lt _ _) (Nat.pow_lt_pow_right (by decide) he))
  intro i hi
  rw [Nat.testBit_or, mk_bit, Nat.testBit_two_pow]
  simp [hi]
theorem mk_top {p : Nat → Bool} {n : Nat} (h : p n = true) : mk p n ||| 2 ^ n = mk p (n + 1) := by
  have e2 := Nat.two_pow_add_eq_or_of_lt (mk_lt p n) 1
  rw [Nat.mul_one] at e2
  show _ = mk p n + (if p n then 2 ^ n else 0)
  rw [if_pos h, Nat.or_comm, ← e2, Nat.add_comm]
