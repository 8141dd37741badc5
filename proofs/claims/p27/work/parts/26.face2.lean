/-! WHAT THE FACE ANSWERS: faults, answers, loading, scripts, simulations. -/
theorem lc_lt {x y : Int64} (h : lg_cmp x y < 0) : x < y := (lg_cmp_lt x y).mp h
theorem lc_nlt {x y : Int64} (h : ¬ lg_cmp x y < 0) : ¬ x < y := fun q => h ((lg_cmp_lt x y).mpr q)
theorem lc_ge {x y : Int64} (h : 0 ≤ lg_cmp x y) : y ≤ x := (lg_cmp_ge x y).mp h
theorem lc_nge {x y : Int64} (h : ¬ 0 ≤ lg_cmp x y) : ¬ y ≤ x := fun q => h ((lg_cmp_ge x y).mpr q)
theorem lc_gt {x y : Int64} (h : 0 < lg_cmp x y) : y < x := (lg_cmp_gt x y).mp h
theorem lc_ngt {x y : Int64} (h : ¬ 0 < lg_cmp x y) : ¬ y < x := fun q => h ((lg_cmp_gt x y).mpr q)
theorem lc_le {x y : Int64} (h : lg_cmp x y ≤ 0) : x ≤ y := (lg_cmp_le x y).mp h
theorem lc_nle {x y : Int64} (h : ¬ lg_cmp x y ≤ 0) : ¬ x ≤ y := fun q => h ((lg_cmp_le x y).mpr q)
theorem lc_eq {x y : Int64} (h : lg_cmp x y = 0) : x = y := (lg_cmp_eq x y).mp h
theorem lc_ne {x y : Int64} (h : ¬ lg_cmp x y = 0) : ¬ x = y := fun q => h ((lg_cmp_eq x y).mpr q)
def fApp (vc : Int32) (ln : Nat) : Nat := if inR vc (nI 0) (nI 255) then (if 120 ≤ ln then 3 else 0) else 2
def fLoad (tx : Nat → Nat) (ln : Nat) : Nat := if erF tx ln = NN then 0 else 3
def fAbo (vw : Int32) : Nat := if inR vw (nI 0) (nI 10) then 0 else 2
def fDog (σ : Nat → Nat) (vd vw : Int32) : Nat := if hasR (σ 0) vd then (if inR vw (nI 0) (nI 10) then 0 else 2) else 1
def fSig (σ : Nat → Nat) (vs vw : Int32) : Nat := if hasR (σ 1) vs then (if inR vw (nI 0) (nI 8) then 0 else 2) else 1
def fPur (vf : Int32) : Nat := if inR vf (nI 0) (nI 7) then 0 else 1
def fApa (va vb vw : Int32) : Nat := if inR va (nI 0) (nI 11) && inR vb (nI 0) (nI 11) then (if inR vw (nI 0) (nI 1) then 0 else 2) else 1
def fUnd (n : Nat) : Nat := if n = 0 then 3 else 0
def fMea (vm : Int32) : Nat := if inR vm (nI 0) (nI 255) then 0 else 2
def fIff (σ : Nat → Nat) (vd vf vc vo : Int32) : Nat := if inR vo (nI 0) (nI 7) then fFind σ vd vf vc else 1
def fSlo (vs : Int32) : Nat := if hasR 2 vs then 0 else 1
def fRes (fl : Nat → Bool) (vs : Int32) : Nat := if hasR 2 vs then (if fl vs.toNatClampNeg then 0 else 3) else 1
def fSim (vm : Int32) : Nat := if inR vm (nI 1) (nI 60) then 0 else 2
theorem hasR_ex {n : Nat} {v : Int32} (hn : n < 2 ^ 31) (h : hasR n v = true) : ∃ j : Nat, j < n ∧ v = nI j := by
  simp only [hasR, Bool.and_eq_true, Bool.not_eq_true', decide_eq_false_iff_not] at h
  exact rowN hn h.1 h.2
theorem hasR_in {k : Nat} {v : Int32} (hk : k + 1 < 2 ^ 31) : hasR (k + 1) v = inR v (nI 0) (nI k) := by
  rw [Bool.eq_iff_iff]
  constructor
  · intro h
    obtain ⟨j, hj, rfl⟩ := hasR_ex hk h
    rw [inR_n (by omega) (by omega) (by omega)]
    simp
    omega
  · intro h
    obtain ⟨j, _, hj, rfl⟩ := inR_ex (by omega) (Nat.zero_le _) h
    rw [hasR_n (by omega) (by omega)]
    simp
    omega
-- loading
/-- a command's parts don't come from before -/
theorem cmd_parts {tx : Nat → Nat} {ln p : Nat} (f f' : Nat → Nat) (c : (cmdF tx ln p f).1 = true) (σ : Nat → Nat) : doR (sgn tx ln p) (cmdF tx ln p f).2.2 σ = doR (sgn tx ln p) (cmdF tx ln p f').2.2 σ ∧ doA (sgn tx ln p) (cmdF tx ln p f).2.2 σ = doA (sgn tx ln p) (cmdF tx ln p f').2.2 σ := by
  have key : ∀ L : List (Nat × Nat × Nat), (rdL tx ln L (p + 1) 0 f).1 = true → ∀ j, j < L.length → (rdL tx ln L (p + 1) 0 f).2.2 j = (rdL tx ln L (p + 1) 0 f').2.2 j := fun L c j hj => (rdL_f L (p + 1) 0 f f').2.2 (fun j hj => absurd hj (Nat.not_lt_zero _)) c j (by omega)
  unfold cmdF at c ⊢
  unfold doR doA
  by_cases h1 : nI (sgn tx ln p) = nI 100
  · simp only [if_pos h1] at c ⊢
    have k := key lsD9 c
    rw [k 0 (by decide), k 1 (by decide), k 2 (by decide), k 3 (by decide)]
    exact ⟨rfl, rfl⟩
  · simp only [if_neg h1] at c ⊢
    by_cases h2 : nI (sgn tx ln p) = nI 102
    · simp only [if_pos h2] at c ⊢
      have k := key lsF9 c
      rw [k 0 (by decide), k 1 (by decide), k 2 (by decide)]
      exact ⟨rfl, rfl⟩
    · simp only [if_neg h2] at c ⊢
      by_cases h3 : nI (sgn tx ln p) = nI 104
      · simp only [if_pos h3] at c ⊢
        have k := key lsH9 c
        rw [k 0 (by decide)]
        exact ⟨rfl, rfl⟩
      · simp only [if_neg h3] at c ⊢
        by_cases h4 : nI (sgn tx ln p) = nI 115
        · simp only [if_pos h4] at c ⊢
          have k := key lsS9 c
          rw [k 0 (by decide), k 1 (by decide), k 2 (by decide), k 3 (by decide)]
          exact ⟨rfl, rfl⟩
        · simp only [if_neg h4] at c ⊢
          by_cases h5 : nI (sgn tx ln p) = nI 120
          · simp only [if_pos h5] at c ⊢
            have k := key lsX9 c
            rw [k 0 (by decide), k 1 (by decide), k 2 (by decide)]
            exact ⟨rfl, rfl⟩
          · simp only [if_neg h5] at c
            exact Bool.noConfusion c
/-- the commands of a text, done; how many are left out -/
def ldF (tx : Nat → Nat) (ln : Nat) : Nat → Nat → (Nat → Nat) → Nat → (Nat → Nat) × Nat
  | 0, _, σ, k => (σ, k)
  | n + 1, p, σ, k => if p < ln then ldF tx ln n (cmdF tx ln p z9).2.1 (if (cmdF tx ln p z9).1 = true then doR (sgn tx ln p) (cmdF tx ln p z9).2.2 σ else σ) (k + if (cmdF tx ln p z9).1 = true ∧ ¬ nI (doA (sgn tx ln p) (cmdF tx ln p z9).2.2 σ) = nI NN2 then 0 else 1) else (σ, k)
theorem ld_step {tx : Nat → Nat} {ln p n k : Nat} {σ : Nat → Nat} {f : Nat → Nat} {u : Bool × Nat × (Nat → Nat)} (hp : p < ln) (hu : u = cmdF tx ln p f) :
    ldF tx ln (n + 1) p σ k = ldF tx ln n u.2.1 (if u.1 = true then doR (sgn tx ln p) u.2.2 σ else σ) (k + if u.1 = true ∧ ¬ nI (doA (sgn tx ln p) u.2.2 σ) = nI NN2 then 0 else 1) := by
  subst hu
  have e1 := (cmdF_f (tx := tx) (ln := ln) (p := p) f z9).1
  have e2 := (cmdF_f (tx := tx) (ln := ln) (p := p) f z9).2
  have e0 : ldF tx ln (n + 1) p σ k = _ := if_pos hp
  rw [e0, e2]
  by_cases c : (cmdF tx ln p f).1 = true
  · have c2 : (cmdF tx ln p z9).1 = true := by rw [← e1]; exact c
    have q := cmd_parts f z9 c σ
    rw [if_pos c, if_pos c2, q.1, q.2, e1]
  · have c2 : ¬ (cmdF tx ln p z9).1 = true := by rw [← e1]; exact c
    simp [c, c2]
theorem ld_end {tx : Nat → Nat} {ln p i k : Nat} {σ : Nat → Nat} (h : 120 ≤ i ∨ ¬ p < ln) : ldF tx ln (120 - i) p σ k = (σ, k) := by
  rcases h with h | h
  · rw [show 120 - i = 0 by omega]
    rfl
  · cases 120 - i with
    | zero => rfl
    | succ n => exact if_neg h
def ldA (tx : Nat → Nat) (ln : Nat) : (Nat → Nat) × Nat := ldF tx ln 120 (if sgn tx ln 0 = 77 then 1 else 0) newS 0
theorem erF_77 {tx : Nat → Nat} {ln : Nat} (h : erF tx ln = NN) : sgn tx ln 0 = 77 := by
  apply Classical.byContradiction
  intro q
  unfold erF at h
  rw [if_neg q] at h
  exact absurd h (by decide)
def flI (fl : Nat → Bool) (i : Nat) : Nat → Bool := fun j => if j < i then false else fl j
theorem flI_0 {fl : Nat → Bool} : (fun j => bI (fl j)) = fun j => bI (flI fl 0 j) := by
  funext j
  simp [flI]
theorem flI_s {fl : Nat → Bool} {i : Nat} : upd (fun j => bI (flI fl i j)) i (bI false) = fun j => bI (flI fl (i + 1) j) := by
  funext j
  by_cases h : j = i
  · subst h
    simp [upd, flI]
  · have h2 : j < i + 1 ↔ j < i := by omega
    simp [upd, flI, h, h2]
-- scripts
def uI (k : Nat) : Int64 := lN (1000000 ^ k)
theorem uI_s (k : Nat) : uI k * (1000000 : Int64) = uI (k + 1) := by
  show lN (1000000 ^ k) * lN 1000000 = lN (1000000 ^ (k + 1))
  rw [lN_mul, Nat.pow_succ]
theorem p6_lt {k : Nat} (h : k ≤ 3) : 1000000 ^ k < 2 ^ 63 := by
  have : 1000000 ^ k ≤ 1000000 ^ 3 := Nat.pow_le_pow_right (by decide) h
  exact Nat.lt_of_le_of_lt this (by decide)
theorem p6_pos (k : Nat) : 0 < 1000000 ^ k := Nat.pow_pos (by decide)
theorem uI_d {k : Nat} (h : k ≤ 2) : uI (k + 1) / (1000000 : Int64) = uI k := by
  show lN (1000000 ^ (k + 1)) / lN 1000000 = lN (1000000 ^ k)
  rw [pk_lDiv (p6_lt (by omega)) (by decide) (by decide), Nat.pow_succ, Nat.mul_div_cancel _ (by decide)]
theorem uI_pos {k : Nat} (h : k ≤ 3) : ¬ uI k ≤ 0 := by
  show ¬ lN (1000000 ^ k) ≤ lN 0
  rw [pk_lLE (p6_lt h) (by decide)]
  have := p6_pos k
  omega
theorem uI_ne {k : Nat} (h : k ≤ 3) : ¬ uI k = 0 := by
  show ¬ lN (1000000 ^ k) = lN 0
  rw [pk_lEQ (p6_lt h) (by decide)]
  have := p6_pos k
  omega
def grp (sc : Int64) (k : Nat) : Nat := sc.toInt.toNat / 1000000 ^ k % 1000000
theorem grp_eq {sc : Int64} {k : Nat} (h : ¬ sc < 0) (hk : k ≤ 2) : (sc / uI k - sc / uI k / (1000000 : Int64) * (1000000 : Int64)).toInt32 = nI (grp sc k) := by
  obtain ⟨m, hm, rfl⟩ := pk_lOf h
  unfold grp
  rw [pk_lT hm]
  show (lN m / lN (1000000 ^ k) - lN m / lN (1000000 ^ k) / lN 1000000 * lN 1000000).toInt32 = _
  rw [pk_lDiv hm (p6_pos k) (p6_lt (by omega)), pk_lRem (Nat.lt_of_le_of_lt (Nat.div_le_self _ _) hm) (by decide) (by decide), lN_i]
  rfl
theorem grp_lt {sc : Int64} {k : Nat} : grp sc k < 1000000 := Nat.mod_lt _ (by decide)
def fRun (vn : Int32) (sc : Int64) : Nat := if inR vn (nI 1) (nI 3) then (if decide (sc < 0) || !decide (sc < uI vn.toNatClampNeg) then 2 else 0) else 2
def rnI (sc : Int64) (n : Nat) : Nat → (Nat → Nat) → Nat
  | 0, _ => NN
  | k + 1, σ => if scB (grp sc k) σ = true then rnI sc n k (scS (grp sc k) σ) else n - (k + 1)
-- simulations
def siX (x : Int64) : Nat → Int64
  | 0 => x
  | k + 1 => siX x k * (6364136223846793005 : Int64) + (1442695040888963407 : Int64)
def rx (x : Int64) : Nat := x.toUInt64.toNat / 2 ^ 33
theorem rx_lt (x : Int64) : rx x < 2 ^ 31 := by
  have := x.toUInt64.toNat_lt
  unfold rx
  omega
theorem rx_eq (x : Int64) : ((x.toUInt64 >>> ((nI 33).toInt64.toUInt64 &&& Int64.toUInt64 63)).toInt64).toInt32 = nI (rx x) := by
  have hs : ((nI 33).toInt64.toUInt64 &&& Int64.toUInt64 63) = 33 := by decide
  rw [hs]
  apply Int32.toBitVec_inj.mp
  apply BitVec.eq_of_toNat_eq
  have h1 : ((x.toUInt64 >>> (33 : UInt64)).toInt64).toInt32.toBitVec = (x.toUInt64 >>> (33 : UInt64)).toBitVec.signExtend 32 := rfl
  rw [h1, BitVec.signExtend_eq_setWidth_of_le _ (by decide), BitVec.toNat_setWidth]
  have h2 : (x.toUInt64 >>> (33 : UInt64)).toBitVec.toNat = rx x := by
    show (x.toUInt64 >>> (33 : UInt64)).toNat = _
    rw [UInt64.toNat_shiftRight, Nat.shiftRight_eq_div_pow]
    rfl
  rw [h2]
  rfl
def siS (x : Int64) (σ : Nat → Nat) : Nat → Nat → Nat
  | 0 => σ
  | k + 1 => plR (rx (siX x (k + 1))) (siS x σ k)
def simA (σ τ : Nat → Nat) : Int32 := nI 1000 * ((nI (τ 4) - nI (σ 4)) - (nI (τ 4) - nI (σ 4)) / nI 1000 * nI 1000) + nI 10 * nI (ct (frd τ) (τ 1)) + nI (ct (msg τ) (τ 0))
theorem BR_1 {σ : Nat → Nat} {b : Nat → Nat → Int32} {f : Nat → Int32} (h : BR σ b) : BR σ (bs b 1 f) := h
theorem WF_siS {σ : Nat → Nat} {hb : Nat} {x : Int64} (h : WF hb σ) : ∀ k, hb + 99 * k ≤ 100000 → WF (hb + 99 * k) (siS x σ k)
  | 0, _ => h
  | k + 1, q => by
    have := WF_plR (r := rx (siX x (k + 1))) (WF_siS (x := x) (σ := σ) h k (by omega)) (by omega)
    exact WF_mono this (by omega) q
def sv2 {α : Type} (K : Nat → α) (j : Nat) (v : α) : Nat → α := fun k => if k = j then v else K k
theorem sv_fl {fl : Nat → Bool} {j : Nat} : upd (fun k => bI (fl k)) j (bI true) = fun k => bI (sv2 fl j true k) := by
  funext k
  by_cases h : k = j <;> simp [upd, sv2, h]
theorem eqPD {g : va_G} {A : Nat → Prop} {J E : va_W} {H : Heap} (hP : va_P g vwCl J H) (hD : va_D A J) (h : J = E) : va_P g vwCl E H ∧ va_D A E := by
  subst h
  exact ⟨hP, hD⟩
