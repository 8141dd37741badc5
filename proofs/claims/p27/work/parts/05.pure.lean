/-! PURE: folds, masks, bits, how many bits. -/
def lf {S : Type} (f : Nat → S → S) : Nat → S → S
  | 0, x => x
  | n + 1, x => f n (lf f n x)
theorem lf_s {S : Type} (f : Nat → S → S) (n : Nat) (x : S) : lf f (n + 1) x = f n (lf f n x) := rfl
theorem lf_congr {S : Type} {f g : Nat → S → S} : ∀ (n : Nat) (x : S), (∀ i y, i < n → f i y = g i y) → lf f n x = lf g n x
  | 0, _, _ => rfl
  | n + 1, x, h => by
    rw [lf_s, lf_s, lf_congr n x (fun i y hi => h i y (by omega)), h n _ (by omega)]
/-- the set of the numbers below n that have p, as bits -/
def mk (p : Nat → Bool) : Nat → Nat
  | 0 => 0
  | n + 1 => mk p n + (if p n then 2 ^ n else 0)
/-- how many they are -/
def ct (p : Nat → Bool) : Nat → Nat
  | 0 => 0
  | n + 1 => ct p n + (if p n then 1 else 0)
theorem mk_lt (p : Nat → Bool) : ∀ n, mk p n < 2 ^ n
  | 0 => by simp [mk]
  | n + 1 => by
    have h := mk_lt p n
    have e : 2 ^ (n + 1) = 2 ^ n + 2 ^ n := by rw [Nat.pow_succ]; omega
    show mk p n + (if p n then 2 ^ n else 0) < _
    split <;> omega
theorem mk_bit (p : Nat → Bool) : ∀ n i, (mk p n).testBit i = (decide (i < n) && p i)
  | 0, i => by simp [mk]
  | n + 1, i => by
    have ih := mk_bit p n i
    have hlt := mk_lt p n
    show (mk p n + (if p n then 2 ^ n else 0)).testBit i = _
    by_cases hp : p n = true
    · rw [if_pos hp, Nat.add_comm]
      rcases Nat.lt_trichotomy i n with h | h | h
      · rw [Nat.testBit_two_pow_add_gt h, ih]
        simp [h, Nat.lt_succ_of_lt h]
      · subst h
        rw [Nat.testBit_two_pow_add_eq, ih]
        simp [hp]
      · have h2 : 2 ^ n + mk p n < 2 ^ i := by
          have e : 2 ^ (n + 1) = 2 ^ n + 2 ^ n := by rw [Nat.pow_succ]; omega
          have e2 : 2 ^ (n + 1) ≤ 2 ^ i := Nat.pow_le_pow_right (by decide) h
          omega
        rw [Nat.testBit_lt_two_pow h2]
        have h3 : ¬ i < n + 1 := by omega
        simp [h3]
    · rw [if_neg hp, Nat.add_zero, ih]
      by_cases h : i < n
      · simp [h, Nat.lt_succ_of_lt h]
      · by_cases h2 : i = n
        · subst h2
          simp [hp]
        · have h3 : ¬ i < n + 1 := by omega
          simp [h, h3]
theorem mk_ext {a n : Nat} {p : Nat → Bool} (ha : a < 2 ^ n) (h : ∀ i, i < n → a.testBit i = p i) : a = mk p n := by
  apply Nat.eq_of_testBit_eq
  intro i
  rw [mk_bit]
  by_cases hi : i < n
  · simp [hi, h i hi]
  · have e : 2 ^ n ≤ 2 ^ i := Nat.pow_le_pow_right (by decide) (by omega)
    rw [Nat.testBit_lt_two_pow (by omega)]
    simp [hi]
theorem mk_congr {p q : Nat → Bool} : ∀ n, (∀ i, i < n → p i = q i) → mk p n = mk q n
  | 0, _ => rfl
  | n + 1, h => by
    show mk p n + _ = mk q n + _
    rw [mk_congr n (fun i hi => h i (by omega)), h n (by omega)]
theorem ct_congr {p q : Nat → Bool} : ∀ n, (∀ i, i < n → p i = q i) → ct p n = ct q n
  | 0, _ => rfl
  | n + 1, h => by
    show ct p n + _ = ct q n + _
    rw [ct_congr n (fun i hi => h i (by omega)), h n (by omega)]
theorem ct_le (p : Nat → Bool) : ∀ n, ct p n ≤ n
  | 0 => Nat.le_refl _
  | n + 1 => by
    have h := ct_le p n
    show ct p n + (if p n then 1 else 0) ≤ _
    split <;> omega
theorem ct_more {p : Nat → Bool} {n : Nat} (h : ∀ i, n ≤ i → p i = false) : ∀ k, ct p (n + k) = ct p n
  | 0 => rfl
  | k + 1 => by
    show ct p (n + k) + (if p (n + k) then 1 else 0) = _
    rw [ct_more h k, h (n + k) (by omega)]
    rfl
theorem ct_mk {p : Nat → Bool} {n N : Nat} (h : n ≤ N) : ct (mk p n).testBit N = ct p n := by
  have e : ct (mk p n).testBit N = ct (fun i => decide (i < n) && p i) N := ct_congr N (fun i _ => mk_bit p n i)
  rw [e, show N = n + (N - n) by omega, ct_more (fun i hi => by simp [show ¬ i < n by omega])]
  exact ct_congr n (fun i hi => by simp [hi])
theorem nx_and (a b : Nat) : nI a &&& nI b = nI (a &&& b) := by
  apply Int32.toBitVec_inj.1
  show BitVec.ofNat 32 a &&& BitVec.ofNat 32 b = BitVec.ofNat 32 (a &&& b)
  apply BitVec.eq_of_getLsbD_eq
  intro i hi
  simp [hi]
theorem nx_or (a b : Nat) : nI a ||| nI b = nI (a ||| b) := by
  apply Int32.toBitVec_inj.1
  show BitVec.ofNat 32 a ||| BitVec.ofNat 32 b = BitVec.ofNat 32 (a ||| b)
  apply BitVec.eq_of_getLsbD_eq
  intro i hi
  simp [hi]
theorem nx_xor (a b : Nat) : nI a ^^^ nI b = nI (a ^^^ b) := by
  apply Int32.toBitVec_inj.1
  show BitVec.ofNat 32 a ^^^ BitVec.ofNat 32 b = BitVec.ofNat 32 (a ^^^ b)
  apply BitVec.eq_of_getLsbD_eq
  intro i hi
  simp [hi]
theorem s_l : ∀ n, n < 32 → ((nI n &&& 31).toBitVec.smod 32).toNat = n := by decide +kernel
theorem s_u : ∀ n, n < 32 → (((nI n).toUInt32 &&& Int32.toUInt32 31).toBitVec % 32).toNat = n := by decide +kernel
/-- 1 << k -/
theorem nb_shl {k : Nat} (hk : k < 31) : nI 1 <<< (nI k &&& 31) = nI (2 ^ k) := by
  have h : 2 ^ k < 2 ^ 31 := Nat.pow_lt_pow_right (by decide) hk
  have e := pk_shlN (n := 1) (nI k &&& 31) k (s_l k (by omega)) (by omega)
  rw [e, Nat.one_mul]
/-- m >> k -/
theorem nb_shr {m k : Nat} (hm : m < 2 ^ 31) (hk : k < 32) : nI m >>> (nI k &&& 31) = nI (m / 2 ^ k) := pk_shrN hm _ k (s_l k hk)
theorem nb_ushr {m k : Nat} (hm : m < 2 ^ 32) (hk : k < 32) : ((nI m).toUInt32 >>> ((nI k).toUInt32 &&& Int32.toUInt32 31)).toInt32 = nI (m / 2 ^ k) := pk_ushrN hm _ k (s_u k hk)
/-- the bit k of m, as a number -/
theorem nb_bit {m k : Nat} : nI (m / 2 ^ k) &&& nI 1 = bI (m.testBit k) := by
  rw [nx_and, show (1 : Nat) = 2 ^ 1 - 1 from rfl, Nat.and_two_pow_sub_one_eq_mod]
  have h : m.testBit k = decide (m / 2 ^ k % 2 = 1) := Nat.testBit_eq_decide_div_mod_eq
  rw [h]
  rcases Nat.mod_two_eq_zero_or_one (m / 2 ^ k) with e | e
  · rw [show m / 2 ^ k % 2 ^ 1 = 0 from e]; rfl
  · rw [show m / 2 ^ k % 2 ^ 1 = 1 from e]; rfl
/-- one more bit on top -/
theorem nb_or {p : Nat → Bool} {n : Nat} (h : p n = true) : nI (mk p n) ||| nI (2 ^ n) = nI (mk p (n + 1)) := by
  rw [nx_or]
  have e : mk p n ||| 2 ^ n = mk p (n + 1) := by
    show _ = mk p n + (if p n then 2 ^ n else 0)
    rw [if_pos h]
    have e2 := Nat.two_pow_add_eq_or_of_lt (mk_lt p n) 1
    rw [Nat.mul_one] at e2
    rw [Nat.or_comm, ← e2, Nat.add_comm]
  rw [e]
theorem nb_or0 {p : Nat → Bool} {n : Nat} (h : p n = false) : nI (mk p n) ||| nI 0 = nI (mk p (n + 1)) := by
  rw [nx_or, Nat.or_zero]
  show _ = nI (mk p n + (if p n then 2 ^ n else 0))
  rw [h]
  rfl
theorem mk_s0 {p : Nat → Bool} {n : Nat} (h : p n = false) : mk p (n + 1) = mk p n := by
  show mk p n + (if p n then 2 ^ n else 0) = _
  rw [h]
  rfl
/-- those of p that aren't of q -/
theorem nb_diff {p q : Nat → Bool} {n : Nat} (hn : n < 32) : nI (mk p n) &&& (nI (mk q n) ^^^ (-1)) = nI (mk (fun i => p i && !q i) n) := by
  apply Int32.toBitVec_inj.1
  show BitVec.ofNat 32 (mk p n) &&& (BitVec.ofNat 32 (mk q n) ^^^ (-1 : Int32).toBitVec) = BitVec.ofNat 32 _
  apply BitVec.eq_of_getLsbD_eq
  intro i hi
  have h1 : ((-1 : Int32).toBitVec).getLsbD i = true := by
    have : ∀ j, j < 32 → ((-1 : Int32).toBitVec).getLsbD j = true := by decide +kernel
    exact this i hi
  simp only [BitVec.getLsbD_and, BitVec.getLsbD_xor, BitVec.getLsbD_ofNat, h1, hi, decide_true, Bool.true_and, mk_bit, Bool.xor_true]
  by_cases h : i < n
  · simp [h]
  · simp [h]
/-- the other ones, n apart -/
theorem nb_but {p : Nat → Bool} {n k : Nat} (hk : k < n) (hn : n < 32) : nI (mk p n) &&& (nI (2 ^ k) ^^^ (-1)) = nI (mk (fun i => p i && !decide (i = k)) n) := by
  have e : 2 ^ k = mk (fun i => decide (i = k)) n := by
    apply mk_ext (Nat.pow_lt_pow_right (by decide) hk)
    intro i _
    rw [Nat.testBit_two_pow]
    by_cases h : k = i
    · subst h; simp
    · simp [h, Ne.symm h]
  rw [e]
  exact nb_diff hn
theorem mk_zero {p : Nat → Bool} {n : Nat} : mk p n = 0 ↔ ∀ i, i < n → p i = false := by
  constructor
  · intro h i hi
    have e := mk_bit p n i
    rw [h] at e
    simpa [hi] using e.symm
  · intro h
    symm
    apply mk_ext (Nat.two_pow_pos n)
    intro i hi
    rw [h i hi]
    simp
-- how many bits, as Integer.bitCount counts them
def bc1 (m : Nat) : Nat := m - (m / 2 &&& 1431655765)
def bc2 (m : Nat) : Nat := (m &&& 858993459) + (m / 4 &&& 858993459)
def bc3 (m : Nat) : Nat := m + m / 16 &&& 252645135
def bc4 (m : Nat) : Nat := m + m / 256
def bc5 (m : Nat) : Nat := m + m / 65536
theorem and_split {a b u v : Nat} (ha : a < 256) (hu : u < 256) : (a + 256 * b) &&& (u + 256 * v) = (a &&& u) + 256 * (b &&& v) := by
  have h1 : ((a + 256 * b) &&& (u + 256 * v)) % 2 ^ 8 = ((a + 256 * b) % 2 ^ 8) &&& ((u + 256 * v) % 2 ^ 8) := Nat.and_mod_two_pow
  have h2 : ((a + 256 * b) &&& (u + 256 * v)) / 2 ^ 8 = ((a + 256 * b) / 2 ^ 8) &&& ((u + 256 * v) / 2 ^ 8) := Nat.and_div_two_pow
  rw [show (a + 256 * b) % 2 ^ 8 = a by omega, show (u + 256 * v) % 2 ^ 8 = u by omega] at h1
  rw [show (a + 256 * b) / 2 ^ 8 = b by omega, show (u + 256 * v) / 2 ^ 8 = v by omega] at h2
  omega
def b1 (M a : Nat) : Nat := a - (a / 2 &&& M)
def b2 (M a : Nat) : Nat := (a &&& M) + (a / 4 &&& M)
theorem b1_f : ∀ a, a < 256 → ∀ e, e < 2 → (a / 2 + 128 * e &&& 85) = (a / 2 &&& 85) := by decide +kernel
theorem b2_f : ∀ a, a < 256 → ∀ e, e < 4 → (a / 4 + 64 * e &&& 51) = (a / 4 &&& 51) := by decide +kernel
theorem b1_lt : ∀ a, a < 256 → b1 85 a < 256 ∧ b2 51 (b1 85 a) % 16 ≤ 4 ∧ b2 51 (b1 85 a) / 16 ≤ 4 ∧ b2 51 (b1 85 a) % 16 + b2 51 (b1 85 a) / 16 = ct a.testBit 8 := by decide +kernel
theorem b1_split {a y M : Nat} (ha : a < 256) : b1 (85 + 256 * M) (a + 256 * y) = b1 85 a + 256 * b1 M y := by
  unfold b1
  have e : (a + 256 * y) / 2 = (a / 2 + 128 * (y % 2)) + 256 * (y / 2) := by omega
  rw [e, and_split (by omega) (by decide), b1_f a ha _ (Nat.mod_lt _ (by decide))]
  have h1 : a / 2 &&& 85 ≤ a / 2 := Nat.and_le_left
  have h2 : y / 2 &&& M ≤ y / 2 := Nat.and_le_left
  omega
theorem b2_split {a y M : Nat} (ha : a < 256) : b2 (51 + 256 * M) (a + 256 * y) = b2 51 a + 256 * b2 M y := by
  unfold b2
  have e : (a + 256 * y) / 4 = (a / 4 + 64 * (y % 4)) + 256 * (y / 4) := by omega
  rw [e, and_split ha (by decide), and_split (by omega) (by decide), b2_f a ha _ (Nat.mod_lt _ (by decide))]
  omega
def bcN (A B C D E F : Nat) : Nat := bc5 (bc4 (bc3 (A + 16 * B + 256 * (C + 16 * D + 256 * (E + 16 * F))))) &&& 63
theorem bcN_all : ∀ A, A < 5 → ∀ B, B < 5 → ∀ C, C < 5 → ∀ D, D < 5 → ∀ E, E < 5 → ∀ F, F < 5 → bcN A B C D E F = A + B + C + D + E + F := by decide +kernel
theorem ct_add (p : Nat → Bool) (n : Nat) : ∀ k, ct p (n + k) = ct p n + ct (fun i => p (n + i)) k
  | 0 => rfl
  | k + 1 => by
    show ct p (n + k) + (if p (n + k) then 1 else 0) = ct p n + (ct (fun i => p (n + i)) k + (if p (n + k) then 1 else 0))
    rw [ct_add p n k]
    omega
theorem bc_eq {m : Nat} (hm : m < 2 ^ 24) : bc5 (bc4 (bc3 (bc2 (bc1 m)))) &&& 63 = ct m.testBit 24 := by
  have ha : m % 256 < 256 := Nat.mod_lt _ (by decide)
  have hb : m / 256 % 256 < 256 := Nat.mod_lt _ (by decide)
  have hc : m / 65536 < 256 := by omega
  obtain ⟨a1, a2, a3, a4⟩ := b1_lt _ ha
  obtain ⟨d1, d2, d3, d4⟩ := b1_lt _ hb
  obtain ⟨e1, e2, e3, e4⟩ := b1_lt _ hc
  have em : m = m % 256 + 256 * (m / 256 % 256 + 256 * (m / 65536)) := by omega
  have h1 : bc1 m = b1 85 (m % 256) + 256 * (b1 85 (m / 256 % 256) + 256 * b1 21845 (m / 65536)) := by
    show b1 (85 + 256 * (85 + 256 * 21845)) m = _
    conv => lhs; rw [em]
    rw [b1_split ha, b1_split hb]
  have h1c : b1 21845 (m / 65536) = b1 85 (m / 65536) := by
    have : ∀ a, a < 256 → b1 21845 a = b1 85 a := by decide +kernel
    exact this _ hc
  have h2 : bc2 (bc1 m) = b2 51 (b1 85 (m % 256)) + 256 * (b2 51 (b1 85 (m / 256 % 256)) + 256 * b2 51 (b1 85 (m / 65536))) := by
    rw [h1, h1c]
    show b2 (51 + 256 * (51 + 256 * 13107)) _ = _
    rw [b2_split a1, b2_split d1]
    have : ∀ a, a < 256 → b2 13107 a = b2 51 a := by decide +kernel
    rw [this _ e1]
  have hct : ct m.testBit 24 = ct (m % 256).testBit 8 + ct (m / 256 % 256).testBit 8 + ct (m / 65536).testBit 8 := by
    have e : ct m.testBit 24 = ct m.testBit 8 + ct (fun i => m.testBit (8 + i)) 8 + ct (fun i => m.testBit (16 + i)) 8 := by
      rw [show (24 : Nat) = 16 + 8 from rfl, ct_add, show (16 : Nat) = 8 + 8 from rfl, ct_add]
    rw [e]
    have q1 : ct (m % 256).testBit 8 = ct m.testBit 8 := ct_congr 8 (fun i hi => by rw [show (256 : Nat) = 2 ^ 8 from rfl, Nat.testBit_mod_two_pow]; simp [hi])
    have q2 : ct (m / 256 % 256).testBit 8 = ct (fun i => m.testBit (8 + i)) 8 := ct_congr 8 (fun i hi => by
      rw [show (256 : Nat) = 2 ^ 8 from rfl, Nat.testBit_mod_two_pow, Nat.testBit_div_two_pow]
      simp [hi, Nat.add_comm])
    have q3 : ct (m / 65536).testBit 8 = ct (fun i => m.testBit (16 + i)) 8 := ct_congr 8 (fun i hi => by
      rw [show (65536 : Nat) = 2 ^ 16 from rfl, Nat.testBit_div_two_pow]
      simp [Nat.add_comm])
    rw [q1, q2, q3]
  rw [hct, h2, ← a4, ← d4, ← e4]
  have hN := bcN_all _ (show _ < 5 from Nat.lt_succ_of_le a2) _ (show _ < 5 from Nat.lt_succ_of_le a3) _ (show _ < 5 from Nat.lt_succ_of_le d2) _ (show _ < 5 from Nat.lt_succ_of_le d3) _ (show _ < 5 from Nat.lt_succ_of_le e2) _ (show _ < 5 from Nat.lt_succ_of_le e3)
  unfold bcN at hN
  rw [show ∀ x : Nat, x % 16 + 16 * (x / 16) = x from fun x => by omega, show ∀ x : Nat, x % 16 + 16 * (x / 16) = x from fun x => by omega, show ∀ x : Nat, x % 16 + 16 * (x / 16) = x from fun x => by omega] at hN
  rw [hN]
  omega
