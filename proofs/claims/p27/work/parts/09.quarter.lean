/-! THE QUARTER, as the class holds it: which streets are closed (bits), what is beside a set of corners, the levels of a search from a corner, sweeps. -/
theorem ends_lt : ∀ j, j < 34 → endsV j < 12 := by decide +kernel
/-- the two corners of the k-th street -/
def eA (k : Nat) : Nat := endsV (2 * k)
def eB (k : Nat) : Nat := endsV (2 * k + 1)
theorem eA_lt {k : Nat} (h : k < 17) : eA k < 12 := ends_lt _ (by omega)
theorem eB_lt {k : Nat} (h : k < 17) : eB k < 12 := ends_lt _ (by omega)
theorem or12 {a b n : Nat} (ha : a < 2 ^ n) (hb : b < 2 ^ n) : a ||| b < 2 ^ n := Nat.or_lt_two_pow ha hb
theorem p12 {e : Nat} (h : e < 12) : 2 ^ e < 2 ^ 12 := Nat.pow_lt_pow_right (by decide) h
/-- what noteWays has laid, c corners on -/
def nwF (W : Nat → Int32) (st cm t i : Nat) : Nat → Int32 := fun k => if k / 12 = st ∧ k % 12 < i ∧ cm.testBit (k % 12) = true then nI t else W k
theorem nwF_0 {W : Nat → Int32} {st cm t : Nat} : nwF W st cm t 0 = W := by
  funext k
  simp [nwF]
theorem nwF_put {W : Nat → Int32} {st cm t i : Nat} (hi : i < 12) (hb : cm.testBit i = true) : upd (nwF W st cm t i) (st * 12 + i) (nI t) = nwF W st cm t (i + 1) := by
  funext k
  by_cases hk : k = st * 12 + i
  · subst hk
    have h1 : (st * 12 + i) / 12 = st := by omega
    have h2 : (st * 12 + i) % 12 = i := by omega
    simp [upd, nwF, h1, h2, hb]
  · have h3 : upd (nwF W st cm t i) (st * 12 + i) (nI t) k = nwF W st cm t i k := by simp [upd, hk]
    rw [h3]
    unfold nwF
    by_cases h1 : k / 12 = st
    · have h2 : k % 12 < i + 1 ↔ k % 12 < i := by omega
      simp only [h2]
    · simp [h1]
theorem nwF_no {W : Nat → Int32} {st cm t i : Nat} (hb : cm.testBit i = false) : nwF W st cm t i = nwF W st cm t (i + 1) := by
  funext k
  unfold nwF
  by_cases h1 : k % 12 = i
  · simp [h1, hb]
  · have h2 : k % 12 < i + 1 ↔ k % 12 < i := by omega
    simp only [h2]
/-- beside one of the corners of cm by one of the first k streets, cl closed -/
def bq (cl cm : Nat) : Nat → Nat → Bool
  | 0, _ => false
  | k + 1, v => bq cl cm k v || (!cl.testBit k && ((cm.testBit (eA k) && decide (eB k = v)) || (cm.testBit (eB k) && decide (eA k = v))))
theorem bq_skip {cl cm k : Nat} (h : cl.testBit k = true) : mk (bq cl cm k) 12 = mk (bq cl cm (k + 1)) 12 := mk_congr 12 (fun v _ => by simp [bq, h])
theorem bq_or {cl cm k x y : Nat} (hk : k < 17) (h : cl.testBit k = false) (hx : x = if cm.testBit (eA k) then 2 ^ eB k else 0) (hy : y = if cm.testBit (eB k) then 2 ^ eA k else 0) : (mk (bq cl cm k) 12 ||| x) ||| y = mk (bq cl cm (k + 1)) 12 := by
  have b1 := p12 (eA_lt hk)
  have b2 := p12 (eB_lt hk)
  have hx2 : x < 2 ^ 12 := by rw [hx]; split <;> omega
  have hy2 : y < 2 ^ 12 := by rw [hy]; split <;> omega
  apply mk_ext (or12 (or12 (mk_lt _ _) hx2) hy2)
  intro v hv
  rw [Nat.testBit_or, Nat.testBit_or, mk_bit, hx, hy]
  by_cases h1 : cm.testBit (eA k) = true <;> by_cases h2 : cm.testBit (eB k) = true <;> simp [bq, h, h1, h2, hv, Nat.testBit_two_pow, Bool.or_assoc]
/-- the streets' table, and the streets by their corners -/
def spl (k : Nat) : Nat := stp (eA k) (eB k)
theorem spl_ok : ∀ k, k < 17 → spl k ≠ NN ∧ 16 ≤ spl k ∧ spl k < 40 := by decide +kernel
theorem spl_inj : ∀ i, i < 17 → ∀ j, j < 17 → spl i = spl j → i = j := by decide +kernel
theorem spl_all : ∀ a, a < 12 → ∀ b, b < 12 → stp a b ≠ NN → ∃ k, k < 17 ∧ ((eA k = a ∧ eB k = b) ∨ (eA k = b ∧ eB k = a)) := by
  have h : ∀ a, a < 12 → ∀ b, b < 12 → stp a b = NN ∨ (List.range 17).any (fun k => (decide (eA k = a) && decide (eB k = b)) || (decide (eA k = b) && decide (eB k = a))) = true := by decide +kernel
  intro a ha b hb hn
  rcases h a ha b hb with e | e
  · exact absurd e hn
  · obtain ⟨k, h1, h2⟩ := List.any_eq_true.mp e
    refine ⟨k, List.mem_range.mp h1, ?_⟩
    simpa using h2
/-- the closed streets as bits, of a row of numbers -/
def RC (σ : Nat → Nat) (cl : Nat) : Prop := cl < 2 ^ 17 ∧ ∀ k, k < 17 → cl.testBit k = !decide (σ (spl k) = 0)
theorem adj_k {σ : Nat → Nat} {cl k : Nat} (h : RC σ cl) (hk : k < 17) : adj σ (eA k) (eB k) = !cl.testBit k := by
  unfold adj
  have h1 := (spl_ok k hk).1
  unfold spl at h1
  rw [h.2 k hk, decide_eq_true h1, Bool.true_and, Bool.not_not]
  rfl
theorem bq_all {σ : Nat → Nat} {cl cm : Nat} (h : RC σ cl) {v : Nat} (hv : v < 12) : bq cl cm 17 v = true ↔ ∃ u, u < 12 ∧ cm.testBit u = true ∧ adj σ u v = true := by
  have e : ∀ n, n ≤ 17 → (bq cl cm n v = true ↔ ∃ k, k < n ∧ cl.testBit k = false ∧ ((cm.testBit (eA k) = true ∧ eB k = v) ∨ (cm.testBit (eB k) = true ∧ eA k = v))) := by
    intro n
    induction n with
    | zero => intro _; simp [bq]
    | succ n ih =>
      intro hn
      simp only [bq, Bool.or_eq_true, ih (by omega), Bool.and_eq_true, Bool.not_eq_true', decide_eq_true_eq]
      constructor
      · rintro (⟨k, h1, h2⟩ | ⟨h1, h2⟩)
        · exact ⟨k, by omega, h2⟩
        · exact ⟨n, by omega, h1, h2⟩
      · rintro ⟨k, h1, h2, h3⟩
        by_cases hk : k = n
        · subst hk; exact Or.inr ⟨h2, h3⟩
        · exact Or.inl ⟨k, by omega, h2, h3⟩
  rw [e 17 (Nat.le_refl _)]
  constructor
  · rintro ⟨k, h1, h2, ⟨h3, h4⟩ | ⟨h3, h4⟩⟩
    · exact ⟨eA k, eA_lt h1, h3, by rw [← h4, adj_k h h1, h2]; rfl⟩
    · exact ⟨eB k, eB_lt h1, h3, by rw [← h4, adj_comm, adj_k h h1, h2]; rfl⟩
  · rintro ⟨u, h1, h2, h3⟩
    have hn : stp u v ≠ NN := by
      intro q
      simp [adj, q] at h3
    obtain ⟨k, g1, ⟨g2, g3⟩ | ⟨g2, g3⟩⟩ := spl_all u h1 v hv hn
    · refine ⟨k, g1, ?_, Or.inl ⟨by rw [g2]; exact h2, g3⟩⟩
      have q := adj_k h g1
      rw [g2, g3, h3] at q
      simpa using q.symm
    · refine ⟨k, g1, ?_, Or.inr ⟨by rw [g3]; exact h2, g2⟩⟩
      have q := adj_k h g1
      rw [g2, g3, adj_comm, h3] at q
      simpa using q.symm
/-- the way between the corners of the place k, as the class has it -/
def wv (σ : Nat → Nat) (k : Nat) : Int32 := if D σ k < 99 then nI (D σ k) else -1
theorem wv_at {σ : Nat → Nat} {a b : Nat} : wv σ (12 * a + b) = if di σ a b < 99 then nI (di σ a b) else -1 := rfl
/-- the corners at a way, and nearer than that -/
def lvE (σ : Nat → Nat) (a t : Nat) (v : Nat) : Bool := decide (di σ a v = t)
def lvR (σ : Nat → Nat) (a t : Nat) (v : Nat) : Bool := decide (di σ a v < t)
theorem lv_0 {σ : Nat → Nat} {a : Nat} (ha : a < 12) : 2 ^ a = mk (lvE σ a 0) 12 := by
  apply mk_ext (p12 ha)
  intro v hv
  rw [Nat.testBit_two_pow]
  unfold lvE
  by_cases h : a = v
  · subst h; simp [di_self ha]
  · simp [h, show ¬ di σ a v = 0 from fun e => h (di_zero ha hv e)]
theorem lv_R {σ : Nat → Nat} {a t : Nat} : mk (lvR σ a t) 12 ||| mk (lvE σ a t) 12 = mk (lvR σ a (t + 1)) 12 := by
  apply mk_ext (or12 (mk_lt _ _) (mk_lt _ _))
  intro v hv
  rw [Nat.testBit_or, mk_bit, mk_bit]
  simp only [hv, decide_true, Bool.true_and, lvR, lvE]
  by_cases h1 : di σ a v < t
  · simp [h1, show di σ a v < t + 1 by omega]
  · by_cases h2 : di σ a v = t
    · simp [h2]
    · simp [h1, h2, show ¬ di σ a v < t + 1 by omega]
theorem lv_E {σ : Nat → Nat} {cl a t : Nat} (h : RC σ cl) (ha : a < 12) (ht : t < 98) : mk (fun v => bq cl (mk (lvE σ a t) 12) 17 v && !lvR σ a (t + 1) v) 12 = mk (lvE σ a (t + 1)) 12 := by
  apply mk_congr
  intro v hv
  have e := bq_all (cm := mk (lvE σ a t) 12) h hv
  rw [Bool.eq_iff_iff]
  simp only [Bool.and_eq_true, e, Bool.not_eq_true', lvR, lvE, decide_eq_false_iff_not, decide_eq_true_eq]
  constructor
  · rintro ⟨⟨u, h1, h2, h3⟩, h4⟩
    rw [mk_bit] at h2
    simp only [h1, decide_true, Bool.true_and, lvE, decide_eq_true_eq] at h2
    have q := di_step ha h1 hv h3
    omega
  · intro h1
    obtain ⟨u, g1, g2, g3⟩ := di_back ha hv (by omega) h1
    refine ⟨⟨u, g1, ?_, g2⟩, by omega⟩
    rw [mk_bit]
    simp [g1, lvE, g3]
theorem lv_end {σ : Nat → Nat} {a t v : Nat} (ha : a < 12) (hv : v < 12) (ht : t = 12 ∨ mk (lvE σ a t) 12 = 0) : di σ a v < 99 → di σ a v < t := by
  intro h
  rcases ht with e | e
  · rw [e]; exact di_11 ha hv h
  · rw [mk_zero] at e
    have hn : ∀ u, u < 12 → di σ a u ≠ t := fun u hu q => by
      have := e u hu
      simp [lvE, q] at this
    have key : ∀ n u, u < 12 → di σ a u = t + n → t + n < 99 → False := by
      intro n
      induction n with
      | zero => intro u hu q _; exact hn u hu q
      | succ n ih =>
        intro u hu q h9
        obtain ⟨w, g1, _, g3⟩ := di_back ha hu h9 q
        exact ih w g1 g3 (by omega)
    apply Classical.byContradiction
    intro q
    exact key (di σ a v - t) v hv (by omega) (by omega)
/-- the table of ways while it is made: rows below i are done, in row i all nearer than t -/
def wI (σ : Nat → Nat) (i t : Nat) (W : Nat → Int32) : Prop := ∀ k, k < 144 → W k = if k / 12 < i then wv σ k else if k / 12 = i ∧ D σ k < t then nI (D σ k) else -1
theorem wI_0 {σ : Nat → Nat} {W : Nat → Int32} (h : ∀ j, j < 144 → W j = -1) : wI σ 0 0 W := fun k hk => by simp [h k hk]
theorem D_di {σ : Nat → Nat} {k : Nat} : D σ k = di σ (k / 12) (k % 12) := by
  unfold di
  rw [show 12 * (k / 12) + k % 12 = k by omega]
theorem wI_note {σ : Nat → Nat} {i t : Nat} {W : Nat → Int32} (h : wI σ i t W) : wI σ i (t + 1) (nwF W i (mk (lvE σ i t) 12) t 12) := by
  intro k hk
  have hm : k % 12 < 12 := Nat.mod_lt _ (by decide)
  unfold nwF
  rw [h k hk, mk_bit, D_di]
  simp only [hm, decide_true, Bool.true_and, lvE, decide_eq_true_eq]
  by_cases h1 : k / 12 = i
  · subst h1
    simp only [true_and, Nat.lt_irrefl, if_false]
    by_cases h2 : di σ (k / 12) (k % 12) = t
    · simp [h2]
    · have h3 : di σ (k / 12) (k % 12) < t + 1 ↔ di σ (k / 12) (k % 12) < t := by omega
      simp only [h2, if_false, h3]
  · simp [h1]
theorem wI_row {σ : Nat → Nat} {i t : Nat} {W : Nat → Int32} (hi : i < 12) (h : wI σ i t W) (ht : t < 99) (he : ∀ v, v < 12 → di σ i v < 99 → di σ i v < t) : wI σ (i + 1) 0 W := by
  intro k hk
  rw [h k hk]
  have hm : k % 12 < 12 := Nat.mod_lt _ (by decide)
  by_cases h1 : k / 12 < i
  · rw [if_pos h1, if_pos (by omega)]
  · rw [if_neg h1]
    by_cases h2 : k / 12 = i
    · rw [if_pos (by omega : k / 12 < i + 1)]
      have e : D σ k = di σ i (k % 12) := by rw [D_di, h2]
      unfold wv
      rw [e]
      have q := he (k % 12) hm
      by_cases h3 : di σ i (k % 12) < t
      · rw [if_pos ⟨h2, h3⟩, if_pos (by omega)]
      · rw [if_neg (fun z => h3 z.2), if_neg (by omega)]
    · rw [if_neg (fun z => h2 z.1), if_neg (by omega), if_neg (by omega)]
theorem wI_end {σ : Nat → Nat} {W : Nat → Int32} (h : wI σ 12 0 W) : ∀ k, k < 144 → W k = wv σ k := fun k hk => by
  rw [h k hk, if_pos (by omega)]
-- sweeps: what they hold is FAR or no less than the way; a sweep never makes it more; behind a sweep every street was tried
/-- one try of a street from u to v -/
def sho (w : Nat → Nat) (u v : Nat) : Nat → Nat := if w v ≤ w u + 1 then w else up w v (w u + 1)
def shB (w : Nat → Nat) (u v : Nat) : Bool := !decide (w v ≤ w u + 1)
/-- the first k streets -/
def swp (cl : Nat) : Nat → (Nat → Nat) → (Nat → Nat)
  | 0, w => w
  | k + 1, w => if cl.testBit k then swp cl k w else sho (sho (swp cl k w) (eA k) (eB k)) (eB k) (eA k)
def swpB (cl : Nat) : Nat → (Nat → Nat) → Bool
  | 0, _ => false
  | k + 1, w => if cl.testBit k then swpB cl k w else (swpB cl k w || shB (swp cl k w) (eA k) (eB k)) || shB (sho (swp cl k w) (eA k) (eB k)) (eB k) (eA k)
def swOk (σ : Nat → Nat) (a n : Nat) (w : Nat → Nat) : Prop := w a = 0 ∧ ∀ v, v < 12 → w v = 1000 ∨ (w v ≤ n ∧ di σ a v < 99 ∧ di σ a v ≤ w v)
theorem sho_le {w : Nat → Nat} {u v x : Nat} : sho w u v x ≤ w x := by
  unfold sho
  split
  · exact Nat.le_refl _
  · by_cases h : x = v
    · subst h; rw [up_s]; omega
    · rw [up_n h]; exact Nat.le_refl _
theorem sho_at {w : Nat → Nat} {u v : Nat} : sho w u v v ≤ w u + 1 := by
  unfold sho
  split
  · assumption
  · rw [up_s]; exact Nat.le_refl _
theorem shB_id {w : Nat → Nat} {u v : Nat} (h : shB w u v = false) : sho w u v = w := by
  unfold shB at h
  unfold sho
  rw [if_pos (by simpa using h)]
/-- where a corner has become nearer by the street, the other end can't by it -/
theorem sho_b {w : Nat → Nat} {u v : Nat} (h : shB w u v = true) : sho (sho w u v) v u = sho w u v := by
  apply shB_id
  have h : ¬ w v ≤ w u + 1 := by simpa [shB] using h
  have e : sho w u v v = w u + 1 := by unfold sho; rw [if_neg h, up_s]
  have l : sho w u v u ≤ w u := sho_le
  unfold shB
  rw [e]
  simp
  omega
theorem swpB_s {cl k : Nat} {w : Nat → Nat} (h : cl.testBit k = false) : swpB cl (k + 1) w = (swpB cl k w || (shB (swp cl k w) (endsV (2 * k)) (endsV (2 * k + 1)) || shB (sho (swp cl k w) (endsV (2 * k)) (endsV (2 * k + 1))) (endsV (2 * k + 1)) (endsV (2 * k)))) := by
  have e : swpB cl (k + 1) w = ((swpB cl k w || shB (swp cl k w) (eA k) (eB k)) || shB (sho (swp cl k w) (eA k) (eB k)) (eB k) (eA k)) := if_neg (by rw [h]; exact Bool.false_ne_true)
  rw [e, Bool.or_assoc]
  rfl
theorem sho_ok {σ : Nat → Nat} {a n u v : Nat} {w : Nat → Nat} (ha : a < 12) (hu : u < 12) (hv : v < 12) (hn : n < 998) (hadj : adj σ u v = true) (h : swOk σ a n w) : swOk σ a (n + 1) (sho w u v) := by
  have hw : ∀ x, x < 12 → w x = 1000 ∨ (w x ≤ n + 1 ∧ di σ a x < 99 ∧ di σ a x ≤ w x) := fun x hx => (h.2 x hx).imp id (fun q => ⟨by omega, q.2⟩)
  unfold sho
  by_cases hc : w v ≤ w u + 1
  · rw [if_pos hc]
    exact ⟨h.1, hw⟩
  · rw [if_neg hc]
    have hva : v ≠ a := fun e => hc (by rw [e, h.1]; omega)
    refine ⟨by rw [up_n (Ne.symm hva)]; exact h.1, fun x hx => ?_⟩
    by_cases hx2 : x = v
    · subst hx2
      rw [up_s]
      right
      rcases h.2 u hu with e | ⟨g1, g2, g3⟩
      · rcases h.2 x hv with e2 | ⟨g1, g2, g3⟩ <;> omega
      · have q := di_step ha hu hv hadj
        have q2 := di_11 ha hu g2
        exact ⟨by omega, by omega, by omega⟩
    · rw [up_n hx2]
      exact hw x hx
theorem swp_le {cl : Nat} : ∀ (k : Nat) (w : Nat → Nat) (x : Nat), swp cl k w x ≤ w x
  | 0, _, _ => Nat.le_refl _
  | k + 1, w, x => by
    have ih := swp_le (cl := cl) k w x
    unfold swp
    split
    · exact ih
    · exact Nat.le_trans sho_le (Nat.le_trans sho_le ih)
theorem swp_mono {cl : Nat} (w : Nat → Nat) (x : Nat) : ∀ (k n : Nat), swp cl (k + n) w x ≤ swp cl k w x
  | _, 0 => Nat.le_refl _
  | k, n + 1 => by
    have ih := swp_mono (cl := cl) w x k n
    show (if cl.testBit (k + n) then swp cl (k + n) w else sho (sho (swp cl (k + n) w) (eA (k + n)) (eB (k + n))) (eB (k + n)) (eA (k + n))) x ≤ _
    by_cases hb : cl.testBit (k + n) = true
    · rw [if_pos hb]; exact ih
    · rw [if_neg hb]; exact Nat.le_trans sho_le (Nat.le_trans sho_le ih)
theorem swp_ok {σ : Nat → Nat} {cl a : Nat} (hR : RC σ cl) (ha : a < 12) : ∀ (k n : Nat) (w : Nat → Nat), k ≤ 17 → n + 2 * k < 998 → swOk σ a n w → swOk σ a (n + 2 * k) (swp cl k w)
  | 0, _, _, _, _, h => h
  | k + 1, n, w, hk, hn, h => by
    have ih := swp_ok hR ha k n w (by omega) (by omega) h
    unfold swp
    by_cases hb : cl.testBit k = true
    · rw [if_pos hb]
      exact ⟨ih.1, fun v hv => (ih.2 v hv).imp id (fun q => ⟨by omega, q.2⟩)⟩
    · rw [if_neg hb]
      have hadj : adj σ (eA k) (eB k) = true := by rw [adj_k hR (by omega)]; simpa using hb
      have hA := eA_lt (show k < 17 by omega)
      have hB := eB_lt (show k < 17 by omega)
      have q1 := sho_ok ha hA hB (by omega) hadj ih
      have q2 := sho_ok (n := n + 2 * k + 1) ha hB hA (by omega) (by rw [adj_comm]; exact hadj) q1
      rw [show n + 2 * (k + 1) = n + 2 * k + 1 + 1 by omega]
      exact q2
/-- every street was tried, both ways -/
theorem swp_try {cl k : Nat} {w : Nat → Nat} (hk : k < 17) (hb : cl.testBit k = false) : swp cl 17 w (eB k) ≤ w (eA k) + 1 ∧ swp cl 17 w (eA k) ≤ w (eB k) + 1 := by
  have e : 17 = (k + 1) + (16 - k) := by omega
  have h1 := swp_le (cl := cl) k w (eA k)
  have h2 := swp_le (cl := cl) k w (eB k)
  have h3 : swp cl (k + 1) w = sho (sho (swp cl k w) (eA k) (eB k)) (eB k) (eA k) := by
    show (if cl.testBit k then _ else _) = _
    rw [if_neg (by simp [hb])]
  have m1 := swp_mono (cl := cl) w (eB k) (k + 1) (16 - k)
  have m2 := swp_mono (cl := cl) w (eA k) (k + 1) (16 - k)
  rw [← e, h3] at m1 m2
  have g1 : sho (sho (swp cl k w) (eA k) (eB k)) (eB k) (eA k) (eB k) ≤ sho (swp cl k w) (eA k) (eB k) (eB k) := sho_le
  have g2 : sho (swp cl k w) (eA k) (eB k) (eB k) ≤ swp cl k w (eA k) + 1 := sho_at
  have g3 : sho (sho (swp cl k w) (eA k) (eB k)) (eB k) (eA k) (eA k) ≤ sho (swp cl k w) (eA k) (eB k) (eB k) + 1 := sho_at
  have g4 : sho (swp cl k w) (eA k) (eB k) (eB k) ≤ swp cl k w (eB k) := sho_le
  omega
theorem swp_adj {σ : Nat → Nat} {cl u v : Nat} {w : Nat → Nat} (hR : RC σ cl) (hu : u < 12) (hv : v < 12) (h : adj σ u v = true) : swp cl 17 w v ≤ w u + 1 := by
  have hn : stp u v ≠ NN := by
    intro q
    simp [adj, q] at h
  obtain ⟨k, g1, ⟨g2, g3⟩ | ⟨g2, g3⟩⟩ := spl_all u hu v hv hn
  · have q := adj_k hR g1
    rw [g2, g3, h] at q
    have t := (swp_try (w := w) g1 (by simpa using q.symm)).1
    rw [g2, g3] at t
    exact t
  · have q := adj_k hR g1
    rw [g2, g3, adj_comm, h] at q
    have t := (swp_try (w := w) g1 (by simpa using q.symm)).2
    rw [g2, g3] at t
    exact t
theorem swpB_id {cl : Nat} : ∀ (k : Nat) (w : Nat → Nat), swpB cl k w = false → swp cl k w = w
  | 0, _, _ => rfl
  | k + 1, w, h => by
    unfold swpB at h
    unfold swp
    by_cases hb : cl.testBit k = true
    · rw [if_pos hb] at h ⊢
      exact swpB_id k w h
    · rw [if_neg hb] at h ⊢
      simp only [Bool.or_eq_false_iff] at h
      have e := swpB_id k w h.1.1
      rw [shB_id h.2, shB_id h.1.2, e]
/-- all that are at most r away have their way -/
def swD (σ : Nat → Nat) (a r : Nat) (w : Nat → Nat) : Prop := ∀ v, v < 12 → di σ a v < 99 → di σ a v ≤ r → w v ≤ di σ a v
theorem swD_0 {σ : Nat → Nat} {a : Nat} {w : Nat → Nat} (ha : a < 12) (h : w a = 0) : swD σ a 0 w := by
  intro v hv _ h0
  have e := di_zero ha hv (Nat.le_zero.mp h0)
  subst e
  omega
theorem swD_s {σ : Nat → Nat} {cl a r : Nat} {w : Nat → Nat} (hR : RC σ cl) (ha : a < 12) (h : swD σ a r w) : swD σ a (r + 1) (swp cl 17 w) := by
  intro v hv h9 hr
  by_cases h1 : di σ a v ≤ r
  · exact Nat.le_trans (swp_le 17 w v) (h v hv h9 h1)
  · have e : di σ a v = r + 1 := by omega
    obtain ⟨u, g1, g2, g3⟩ := di_back ha hv (by omega) e
    have q := h u g1 (by omega) (by omega)
    have t := swp_adj (w := w) hR g1 hv g2
    omega
theorem swD_all {σ : Nat → Nat} {cl a : Nat} {w : Nat → Nat} (hR : RC σ cl) (ha : a < 12) (h0 : w a = 0) (h : swpB cl 17 w = false) : ∀ r, swD σ a r w := by
  intro r
  induction r with
  | zero => exact swD_0 ha h0
  | succ r ih =>
    have q := swD_s hR ha ih
    rw [swpB_id 17 w h] at q
    exact q
theorem sw_end {σ : Nat → Nat} {a n v : Nat} {w : Nat → Nat} (ha : a < 12) (hv : v < 12) (hok : swOk σ a n w) (hn : n < 1000) (h : swD σ a 12 w) : (w v = 1000 ∧ ¬ di σ a v < 99) ∨ (w v = di σ a v ∧ di σ a v < 99) := by
  by_cases h9 : di σ a v < 99
  · have q := h v hv h9 (by have := di_11 ha hv h9; omega)
    have q2 := di_11 ha hv h9
    rcases hok.2 v hv with e | ⟨g1, g2, g3⟩
    · omega
    · exact Or.inr ⟨by omega, h9⟩
  · rcases hok.2 v hv with e | ⟨g1, g2, g3⟩
    · exact Or.inl ⟨e, h9⟩
    · exact absurd g2 h9
