/-! THE QUARTER: the model's row of 248 numbers as naturals, streets, walks, how far corners are apart (by trying each corner between two), and that this is the least walk. -/
def NN : Nat := 4294967295
theorem nI_NN : nI NN = -1 := by decide
theorem nn_eq {a : Nat} (h : a < 2 ^ 32) : nI a = -1 ↔ a = NN := by
  constructor
  · intro e
    have h1 := congrArg (fun x : Int32 => x.toBitVec.toNat) e
    rw [← nI_NN] at h1
    rw [pk_tn h, pk_tn (by decide)] at h1
    exact h1
  · intro e
    rw [e, nI_NN]
theorem n32_eq {a b : Nat} (ha : a < 2 ^ 32) (hb : b < 2 ^ 32) : nI a = nI b ↔ a = b := by
  constructor
  · intro e
    have h1 := congrArg (fun x : Int32 => x.toBitVec.toNat) e
    rw [pk_tn ha, pk_tn hb] at h1
    exact h1
  · intro e
    rw [e]
def dg (σ : Nat → Nat) (d k : Nat) : Nat := σ (40 + 8 * d + k)
def sg (σ : Nat → Nat) (s k : Nat) : Nat := σ (88 + 8 * s + k)
def up (σ : Nat → Nat) (i v : Nat) : Nat → Nat := fun j => if j = i then v else σ j
def mS (σ : Nat → Nat) : Nat → Int32 := fun j => nI (σ j)
theorem up_s {σ : Nat → Nat} {i v : Nat} : up σ i v i = v := by simp [up]
theorem up_n {σ : Nat → Nat} {i j v : Nat} (h : j ≠ i) : up σ i v j = σ j := by simp [up, h]
theorem mS_up (σ : Nat → Nat) (i v : Nat) : upd (mS σ) i (nI v) = mS (up σ i v) := by
  funext j
  by_cases h : j = i <;> simp [upd, mS, up, h]
/-- the place of the street between two corners -/
def stp (a b : Nat) : Nat := if a + 4 = b then 28 + a else if b + 4 = a then 28 + b else if a + 1 = b then (if a % 4 < 3 then 16 + a else NN) else if b + 1 = a then (if b % 4 < 3 then 16 + b else NN) else NN
def adj (σ : Nat → Nat) (a b : Nat) : Bool := decide (stp a b ≠ NN) && decide (σ (stp a b) = 0)
theorem stp_comm (a b : Nat) : stp a b = stp b a := by
  unfold stp
  by_cases h1 : a + 4 = b <;> by_cases h2 : b + 4 = a <;> by_cases h3 : a + 1 = b <;> by_cases h4 : b + 1 = a <;> simp [h1, h2, h3, h4] <;> omega
theorem adj_comm (σ : Nat → Nat) (a b : Nat) : adj σ a b = adj σ b a := by unfold adj; rw [stp_comm]
theorem adj_ne {σ : Nat → Nat} {a b : Nat} (h : adj σ a b = true) : a ≠ b := by
  intro e
  subst e
  simp [adj, stp] at h
/-- a walk of n streets whose corners between are below m -/
def wk (σ : Nat → Nat) (m : Nat) : Nat → Nat → Nat → Prop
  | 0, a, b => a = b
  | n + 1, a, b => ∃ c, c < 12 ∧ (n = 0 ∨ c < m) ∧ wk σ m n a c ∧ adj σ c b = true
theorem wk_mono {σ : Nat → Nat} {m m' : Nat} (h : m ≤ m') : ∀ (n a b : Nat), wk σ m n a b → wk σ m' n a b
  | 0, _, _, e => e
  | n + 1, a, b, ⟨c, h1, h2, h3, h4⟩ => ⟨c, h1, h2.imp id (fun q => by omega), wk_mono h n a c h3, h4⟩
theorem wk_cat {σ : Nat → Nat} {n1 a c : Nat} (hc : c < 12) (h : wk σ 12 n1 a c) : ∀ (n2 b : Nat), wk σ 12 n2 c b → wk σ 12 (n1 + n2) a b
  | 0, b, e => by
    have e : c = b := e
    subst e
    exact h
  | n2 + 1, b, ⟨d, h1, _, h3, h4⟩ => ⟨d, h1, Or.inr h1, wk_cat hc h n2 d h3, h4⟩
theorem wk_one {σ : Nat → Nat} {m a b : Nat} (ha : a < 12) (h : adj σ a b = true) : wk σ m 1 a b := ⟨a, ha, Or.inl rfl, rfl, h⟩
/-- a walk through corners up to m passes m, or it doesn't -/
theorem wk_split {σ : Nat → Nat} {m : Nat} (hm : m < 12) : ∀ (n a b : Nat), wk σ (m + 1) n a b → wk σ m n a b ∨ ∃ n1 n2, n1 + n2 ≤ n ∧ wk σ m n1 a m ∧ wk σ m n2 m b
  | 0, _, _, e => Or.inl e
  | n + 1, a, b, ⟨c, h1, h2, h3, h4⟩ => by
    rcases wk_split hm n a c h3 with h | ⟨n1, n2, g1, g2, g3⟩
    · by_cases hn : n = 0 ∨ c < m
      · exact Or.inl ⟨c, h1, hn, h, h4⟩
      · have e : c = m := by omega
        subst e
        exact Or.inr ⟨n, 1, by omega, h, wk_one hm h4⟩
    · by_cases hn : n2 = 0 ∨ c < m
      · exact Or.inr ⟨n1, n2 + 1, by omega, g2, c, h1, hn, g3, h4⟩
      · have e : c = m := by omega
        subst e
        exact Or.inr ⟨n1, 1, by omega, g2, wk_one hm h4⟩
def fw0 (σ : Nat → Nat) (k : Nat) : Nat := if k / 12 = k % 12 then 0 else if adj σ (k / 12) (k % 12) = true then 1 else 99
def fwk (m k : Nat) (w : Nat → Nat) : Nat → Nat := up w k (if w (12 * (k / 12) + m) + w (12 * m + k % 12) < w k then w (12 * (k / 12) + m) + w (12 * m + k % 12) else w k)
def fwm (m : Nat) (w : Nat → Nat) : Nat → Nat := lf (fun k w => fwk m k w) 144 w
/-- how far: 99 is no way -/
def D (σ : Nat → Nat) : Nat → Nat := lf (fun m w => fwm m w) 12 (fw0 σ)
/-- what is true of all ways at each stage -/
def fwI (σ : Nat → Nat) (m : Nat) (w : Nat → Nat) : Prop :=
  (∀ a b, a < 12 → b < 12 → w (12 * a + b) ≤ 99) ∧ (∀ a b, a < 12 → b < 12 → w (12 * a + b) < 99 → wk σ 12 (w (12 * a + b)) a b) ∧
  (∀ n a b, a < 12 → b < 12 → n < 99 → wk σ m n a b → w (12 * a + b) ≤ n)
theorem fw0_I (σ : Nat → Nat) : fwI σ 0 (fw0 σ) := by
  have e1 : ∀ a b, a < 12 → b < 12 → fw0 σ (12 * a + b) = if a = b then 0 else if adj σ a b = true then 1 else 99 := by
    intro a b ha hb
    unfold fw0
    rw [show (12 * a + b) / 12 = a by omega, show (12 * a + b) % 12 = b by omega]
  refine ⟨fun a b ha hb => ?_, fun a b ha hb h => ?_, fun n a b ha hb hn h => ?_⟩
  · rw [e1 a b ha hb]
    split
    · omega
    · split <;> omega
  · rw [e1 a b ha hb] at h ⊢
    by_cases hab : a = b
    · rw [if_pos hab]; exact hab
    · rw [if_neg hab] at h ⊢
      by_cases had : adj σ a b = true
      · rw [if_pos had]; exact wk_one ha had
      · rw [if_neg had] at h
        omega
  · rw [e1 a b ha hb]
    match n, h with
    | 0, h => rw [if_pos (show a = b from h)]; omega
    | 1, ⟨c, _, _, h3, h4⟩ =>
      have h3 : a = c := h3
      subst h3
      rw [if_neg (adj_ne h4), if_pos h4]
      omega
    | n + 2, ⟨c, _, h2, _, _⟩ => omega
/-- within a stage: what was, no more than what was, sound -/
theorem fwk_stage {σ : Nat → Nat} {m : Nat} (hm : m < 12) {w0 : Nat → Nat} (h0 : fwI σ m w0) : ∀ (i : Nat), i ≤ 144 → 
    (∀ a b, a < 12 → b < 12 → lf (fun k w => fwk m k w) i w0 (12 * a + b) ≤ w0 (12 * a + b)) ∧
    (∀ a b, a < 12 → b < 12 → lf (fun k w => fwk m k w) i w0 (12 * a + b) < 99 → wk σ 12 (lf (fun k w => fwk m k w) i w0 (12 * a + b)) a b) ∧
    (∀ a b, a < 12 → b < 12 → 12 * a + b < i → lf (fun k w => fwk m k w) i w0 (12 * a + b) ≤ w0 (12 * a + m) + w0 (12 * m + b)) := by
  intro i
  induction i with
  | zero =>
    intro _
    exact ⟨fun a b _ _ => Nat.le_refl _, h0.2.1, fun a b _ _ h => absurd h (Nat.not_lt_zero _)⟩
  | succ i ih =>
    intro hi
    obtain ⟨i1, i2, i3⟩ := ih (by omega)
    rw [lf_s]
    generalize hw : lf (fun k w => fwk m k w) i w0 = w at i1 i2 i3
    have hA : i / 12 < 12 := by omega
    have hB : i % 12 < 12 := Nat.mod_lt _ (by decide)
    have key : ∀ a b, a < 12 → b < 12 → (12 * a + b = i ∧ a = i / 12 ∧ b = i % 12) ∨ 12 * a + b ≠ i := by
      intro a b ha hb
      by_cases h : 12 * a + b = i
      · exact Or.inl ⟨h, by omega, by omega⟩
      · exact Or.inr h
    have hs := i1 (i / 12) m hA hm
    have ht := i1 m (i % 12) hm hB
    have hc := i1 (i / 12) (i % 12) hA hB
    have ei : 12 * (i / 12) + i % 12 = i := by omega
    refine ⟨fun a b ha hb => ?_, fun a b ha hb h => ?_, fun a b ha hb h => ?_⟩
    · rcases key a b ha hb with ⟨e, ea, eb⟩ | e
      · rw [e]
        show up w i _ i ≤ _
        rw [up_s]
        rw [ei] at hc
        split <;> omega
      · show up w i _ (12 * a + b) ≤ _
        rw [up_n e]
        exact i1 a b ha hb
    · rcases key a b ha hb with ⟨e, ea, eb⟩ | e
      · subst ea; subst eb
        rw [e] at h ⊢
        have h : up w i (if w (12 * (i / 12) + m) + w (12 * m + i % 12) < w i then w (12 * (i / 12) + m) + w (12 * m + i % 12) else w i) i < 99 := h
        show wk σ 12 (up w i (if w (12 * (i / 12) + m) + w (12 * m + i % 12) < w i then w (12 * (i / 12) + m) + w (12 * m + i % 12) else w i) i) _ _
        rw [up_s] at h ⊢
        by_cases hlt : w (12 * (i / 12) + m) + w (12 * m + i % 12) < w i
        · rw [if_pos hlt] at h ⊢
          exact wk_cat hm (i2 _ _ hA hm (by omega)) _ _ (i2 _ _ hm hB (by omega))
        · rw [if_neg hlt] at h ⊢
          have q := i2 _ _ hA hB (by rw [ei]; exact h)
          rw [ei] at q
          exact q
      · have h : up w i _ (12 * a + b) < 99 := h
        show wk σ 12 (up w i _ (12 * a + b)) a b
        rw [up_n e] at h ⊢
        exact i2 a b ha hb h
    · rcases key a b ha hb with ⟨e, ea, eb⟩ | e
      · rw [e, ea, eb]
        show up w i _ i ≤ _
        rw [up_s]
        split <;> omega
      · show up w i _ (12 * a + b) ≤ _
        rw [up_n e]
        exact i3 a b ha hb (by omega)
theorem fwm_I {σ : Nat → Nat} {m : Nat} (hm : m < 12) {w : Nat → Nat} (h : fwI σ m w) : fwI σ (m + 1) (fwm m w) := by
  obtain ⟨s1, s2, s3⟩ := fwk_stage hm h 144 (Nat.le_refl _)
  refine ⟨fun a b ha hb => Nat.le_trans (s1 a b ha hb) (h.1 a b ha hb), s2, fun n a b ha hb hn hw => ?_⟩
  rcases wk_split hm n a b hw with g | ⟨n1, n2, g1, g2, g3⟩
  · exact Nat.le_trans (s1 a b ha hb) (h.2.2 n a b ha hb hn g)
  · have q := s3 a b ha hb (by omega)
    have q1 := h.2.2 n1 a m ha hm (by omega) g2
    have q2 := h.2.2 n2 m b hm hb (by omega) g3
    exact Nat.le_trans q (by omega)
theorem D_I (σ : Nat → Nat) : fwI σ 12 (D σ) := by
  have h : ∀ i, i ≤ 12 → fwI σ i (lf (fun m w => fwm m w) i (fw0 σ)) := by
    intro i
    induction i with
    | zero => intro _; exact fw0_I σ
    | succ i ih => intro hi; exact fwm_I (by omega) (ih (by omega))
  exact h 12 (Nat.le_refl _)
/-- how far b is from a -/
def di (σ : Nat → Nat) (a b : Nat) : Nat := D σ (12 * a + b)
theorem di_le {σ : Nat → Nat} {a b : Nat} (ha : a < 12) (hb : b < 12) : di σ a b ≤ 99 := (D_I σ).1 a b ha hb
theorem di_wk {σ : Nat → Nat} {a b : Nat} (ha : a < 12) (hb : b < 12) (h : di σ a b < 99) : wk σ 12 (di σ a b) a b := (D_I σ).2.1 a b ha hb h
theorem di_min {σ : Nat → Nat} {n a b : Nat} (ha : a < 12) (hb : b < 12) (hn : n < 99) (h : wk σ 12 n a b) : di σ a b ≤ n := (D_I σ).2.2 n a b ha hb hn h
theorem di_self {σ : Nat → Nat} {a : Nat} (ha : a < 12) : di σ a a = 0 := Nat.le_zero.mp (di_min ha ha (by decide) (show wk σ 12 0 a a from rfl))
theorem di_zero {σ : Nat → Nat} {a b : Nat} (ha : a < 12) (hb : b < 12) (h : di σ a b = 0) : a = b := by
  have q := di_wk ha hb (by omega : di σ a b < 99)
  rw [h] at q
  exact q
/-- one street more -/
theorem di_step {σ : Nat → Nat} {a u v : Nat} (ha : a < 12) (hu : u < 12) (hv : v < 12) (h : adj σ u v = true) : di σ a v ≤ di σ a u + 1 := by
  have h1 := di_le (σ := σ) ha hv
  by_cases hd : di σ a u < 98
  · exact di_min ha hv (by omega) ⟨u, hu, Or.inr hu, di_wk ha hu (by omega), h⟩
  · omega
/-- the last street of a least walk -/
theorem di_back {σ : Nat → Nat} {a v t : Nat} (ha : a < 12) (hv : v < 12) (ht : t + 1 < 99) (h : di σ a v = t + 1) : ∃ u, u < 12 ∧ adj σ u v = true ∧ di σ a u = t := by
  have q := di_wk ha hv (by omega : di σ a v < 99)
  rw [h] at q
  obtain ⟨u, h1, _, h3, h4⟩ := q
  have h5 := di_min ha h1 (by omega) h3
  have h6 := di_step ha h1 hv h4
  exact ⟨u, h1, h4, by omega⟩
theorem gr_holes : ∀ (m n : Nat) (f : Nat → Nat), (∀ i, i < n → f i < m) → (∀ i j, i < j → j < n → f i ≠ f j) → n ≤ m := by
  intro m
  induction m with
  | zero =>
    intro n f h1 _
    rcases Nat.eq_zero_or_pos n with h | h
    · omega
    · exact absurd (h1 0 h) (Nat.not_lt_zero _)
  | succ m ih =>
    intro n f h1 h2
    by_cases hx : ∃ i, i < n ∧ f i = m
    · obtain ⟨a, ha, hfa⟩ := hx
      have hg := ih (n - 1) (fun i => if i < a then f i else f (i + 1)) (by
        intro i hi
        by_cases q : i < a
        · simp only [if_pos q]
          have b1 := h1 i (by omega)
          have b2 := h2 i a q ha
          omega
        · simp only [if_neg q]
          have b1 := h1 (i + 1) (by omega)
          have b2 := h2 a (i + 1) (by omega) (by omega)
          omega) (by
        intro i j hij hj
        by_cases q : i < a
        · by_cases r : j < a
          · simp only [if_pos q, if_pos r]
            exact h2 i j hij (by omega)
          · simp only [if_pos q, if_neg r]
            exact h2 i (j + 1) (by omega) (by omega)
        · simp only [if_neg q, if_neg (show ¬ j < a by omega)]
          exact h2 (i + 1) (j + 1) (by omega) (by omega))
      omega
    · have h3 : n ≤ m := ih n f (fun i hi => by
        have b1 := h1 i hi
        have b2 : f i ≠ m := fun e => hx ⟨i, hi, e⟩
        omega) h2
      omega
/-- no way is longer than eleven streets -/
theorem di_11 {σ : Nat → Nat} {a b : Nat} (ha : a < 12) (hb : b < 12) (h : di σ a b < 99) : di σ a b < 12 := by
  have hl : ∀ t v, v < 12 → di σ a v = t → t < 99 → ∀ j, j ≤ t → ∃ u, u < 12 ∧ di σ a u = j := by
    intro t
    induction t with
    | zero =>
      intro v hv e _ j hj
      exact ⟨v, hv, by omega⟩
    | succ t ih =>
      intro v hv e ht j hj
      by_cases hjt : j = t + 1
      · exact ⟨v, hv, by omega⟩
      · obtain ⟨u, h1, _, h3⟩ := di_back ha hv ht e
        exact ih u h1 h3 (by omega) j (by omega)
  have hl := hl _ b hb rfl h
  have hf : ∀ j, ∃ u, j ≤ di σ a b → u < 12 ∧ di σ a u = j := by
    intro j
    by_cases hj : j ≤ di σ a b
    · obtain ⟨u, h1⟩ := hl j hj
      exact ⟨u, fun _ => h1⟩
    · exact ⟨0, fun q => absurd q hj⟩
  have q := gr_holes 12 (di σ a b + 1) (fun j => Classical.choose (hf j)) (fun i hi => (Classical.choose_spec (hf i) (by omega)).1) (fun i j hij hj e => by
    have e1 := (Classical.choose_spec (hf i) (by omega)).2
    have e2 := (Classical.choose_spec (hf j) (by omega)).2
    rw [e] at e1
    omega)
  omega
theorem nc_eq9 {a b : Nat} (ha : a < 2 ^ 32) (hb : b < 2 ^ 32) (c : nI a = nI b) : a = b := (n32_eq ha hb).mp c
theorem nc_ne9 {a b : Nat} (_ : a < 2 ^ 32) (_ : b < 2 ^ 32) (c : ¬ nI a = nI b) : a ≠ b := fun e => c (by rw [e])
