/-! P27: what holds of every state of a run (PI), kept by each action; coins, sightings, ways. -/
def PI (σ : Nat → Nat) : Prop :=
  (∀ d, d < σ 0 → msg σ d = false → dg σ d 3 ≤ dg σ d 7 ∧ dg σ d 7 ≤ σ 2) ∧
  (∀ s, s < σ 1 → sg σ s 5 ≠ NN → msg σ (sg σ s 5) = false → (sg σ s 6 = 1 ∨ sg σ s 7 = 1) ∧ (sg σ s 4 = 1 → sg σ s 7 = 1 - sg σ s 6)) ∧
  σ 4 = sm (pu σ) 8 ∧ σ 3 = sm (fun d => dg σ d 4) (σ 0) ∧ sm (fun d => if msg σ d then 0 else dg σ d 4) (σ 0) = σ 4 + σ 5
theorem PI_same {σ τ : Nat → Nat} (h : PI σ) (h0 : ∀ i, i < 6 → τ i = σ i) (hp : ∀ i, 8 ≤ i → i < 16 → τ i = σ i) (hs : ∀ i, 40 ≤ i → τ i = σ i) : PI τ := by
  have hd : ∀ d k, dg τ d k = dg σ d k := fun d k => by unfold dg; exact hs _ (by omega)
  have hg : ∀ s k, sg τ s k = sg σ s k := fun s k => by unfold sg; exact hs _ (by omega)
  have hm : ∀ d, msg τ d = msg σ d := fun d => by unfold msg; rw [hd]
  have hu : sm (pu τ) 8 = sm (pu σ) 8 := sm_congr 8 (fun f hf => by unfold pu; exact hp _ (by omega) (by omega))
  obtain ⟨p1, p2, p3, p4, p5⟩ := h
  refine ⟨fun d hd9 hm9 => ?_, fun s hs9 h5 h6 => ?_, ?_, ?_, ?_⟩
  · rw [h0 0 (by omega)] at hd9
    rw [hm] at hm9
    rw [hd, hd, h0 2 (by omega)]
    exact p1 d hd9 hm9
  · rw [h0 1 (by omega)] at hs9
    rw [hg] at h5 h6
    rw [hm] at h6
    rw [hg, hg, hg]
    exact p2 s hs9 h5 h6
  · rw [h0 4 (by omega), hu]
    exact p3
  · rw [h0 3 (by omega), h0 0 (by omega), p4]
    exact sm_congr _ (fun d _ => (hd d 4).symm)
  · rw [h0 0 (by omega), h0 4 (by omega), h0 5 (by omega), ← p5]
    exact sm_congr _ (fun d _ => by rw [hm, hd])
theorem PI_set {σ : Nat → Nat} {z : Bool} {v : Nat} (h : PI σ) : PI (setS σ z v) :=
  PI_same h (fun i hi => by unfold setS; rw [if_pos (by omega), if_neg (by omega), if_neg (by omega)]) (fun i h1 _ => setS_lo h1) (fun i h1 => setS_lo (by omega))
theorem PI_close {σ : Nat → Nat} {k : Nat} {on : Bool} (h : PI σ) (hk : k < 17) : PI (clS σ k on) :=
  PI_same h (fun i hi => clS_hi hk (Or.inl (by omega))) (fun i h1 h2 => clS_hi hk (Or.inl (by omega))) (fun i h1 => clS_hi hk (Or.inr h1))
theorem PI_new : PI newS := by
  refine ⟨fun d hd => absurd hd (Nat.not_lt_zero _), fun s hs => absurd hs (Nat.not_lt_zero _), ?_, rfl, rfl⟩
  rw [show sm (pu newS) 8 = sm (fun _ => 0) 8 from sm_congr 8 (fun f hf => newS_hi (by omega)), sm_zero]
  rfl
theorem PI_lose {σ : Nat → Nat} {bd m p c r : Nat} (hW : WF bd σ) (hn : σ 0 < 6) (h : PI σ) : PI (loseS σ m p c r) := by
  have e0 : loseS σ m p c r 0 = σ 0 + 1 := rfl
  have e1 : loseS σ m p c r 1 = σ 1 := rfl
  have e2 : loseS σ m p c r 2 = σ 2 := rfl
  have e3 : loseS σ m p c r 3 = σ 3 + r := rfl
  have e4 : loseS σ m p c r 4 = σ 4 := rfl
  have e5 : loseS σ m p c r 5 = σ 5 := rfl
  have hm : ∀ d, d < σ 0 → msg (loseS σ m p c r) d = msg σ d := fun d hd => by unfold msg; rw [loseS_dg hd (by decide)]
  have hz : msg (loseS σ m p c r) (σ 0) = true := by unfold msg; rw [loseS_new (by decide)]; rfl
  obtain ⟨p1, p2, p3, p4, p5⟩ := h
  refine ⟨fun d hd9 hm9 => ?_, fun s hs9 h5 h6 => ?_, ?_, ?_, ?_⟩
  · rw [e0] at hd9
    by_cases e : d = σ 0
    · subst e; rw [hz] at hm9; cases hm9
    · have hd2 : d < σ 0 := by omega
      rw [hm d hd2] at hm9
      rw [loseS_dg hd2 (by decide), loseS_dg hd2 (by decide), e2]
      exact p1 d hd2 hm9
  · rw [e1] at hs9
    rw [loseS_sg hn] at h5 h6
    have h7 := ((hW.ss hs9).2.2.2.2.2.1.resolve_left h5).1
    rw [hm _ h7] at h6
    rw [loseS_sg hn, loseS_sg hn, loseS_sg hn]
    exact p2 s hs9 h5 h6
  · rw [e4, p3]
    exact sm_congr 8 (fun f hf => (loseS_lo (i := 8 + f) (by omega) (by omega)).symm)
  · rw [e3, e0, p4]
    show _ = sm _ (σ 0) + dg (loseS σ m p c r) (σ 0) 4
    rw [loseS_new (by decide)]
    show _ = _ + r
    congr 1
    exact sm_congr _ (fun d hd => (loseS_dg hd (by decide)).symm)
  · rw [e0, e4, e5, ← p5]
    show sm _ (σ 0) + (if msg (loseS σ m p c r) (σ 0) then 0 else _) = _
    rw [hz]
    show sm _ (σ 0) + 0 = _
    rw [Nat.add_zero]
    exact sm_congr _ (fun d hd => by rw [hm d hd, loseS_dg hd (by decide)])
theorem PI_sight {σ : Nat → Nat} {bd f c m ago ph : Nat} (hW : WF bd σ) (h : PI σ) : PI (sightS σ f c m ago ph) := by
  have e0 : sightS σ f c m ago ph 0 = σ 0 := rfl
  have e1 : sightS σ f c m ago ph 1 = σ 1 + 1 := rfl
  have e2 : sightS σ f c m ago ph 2 = σ 2 := rfl
  have hn := hW.n0
  have hm : ∀ d, d < σ 0 → msg (sightS σ f c m ago ph) d = msg σ d := fun d hd => by unfold msg; rw [sightS_dg (by omega) (by decide)]
  obtain ⟨p1, p2, p3, p4, p5⟩ := h
  refine ⟨fun d hd9 hm9 => ?_, fun s hs9 h5 h6 => ?_, ?_, ?_, ?_⟩
  · rw [e0] at hd9
    rw [hm d hd9] at hm9
    rw [sightS_dg (by omega) (by decide), sightS_dg (by omega) (by decide), e2]
    exact p1 d hd9 hm9
  · rw [e1] at hs9
    by_cases e : s = σ 1
    · subst e
      rw [sightS_new (by decide)] at h5 h6
      have h5 : mea σ m (σ 2 - ago) ≠ NN := h5
      have h6 : msg (sightS σ f c m ago ph) (mea σ m (σ 2 - ago)) = false := h6
      rcases mea_ok (σ := σ) (m := m) (h := σ 2 - ago) with q | ⟨q1, q2, -⟩
      · exact absurd q h5
      · rw [hm _ q1, q2] at h6
        cases h6
    · have hs2 : s < σ 1 := by omega
      rw [sightS_sg hs2 (by decide)] at h5 h6
      have h7 := ((hW.ss hs2).2.2.2.2.2.1.resolve_left h5).1
      rw [hm _ h7] at h6
      rw [sightS_sg hs2 (by decide), sightS_sg hs2 (by decide), sightS_sg hs2 (by decide)]
      exact p2 s hs2 h5 h6
  · show σ 4 = _
    rw [p3]
    exact sm_congr 8 (fun f hf => (sightS_lo (i := 8 + f) (by omega) (by omega)).symm)
  · show σ 3 = _
    rw [e0, p4]
    exact sm_congr _ (fun d hd => (sightS_dg (by omega) (by decide)).symm)
  · show _ = σ 4 + σ 5
    rw [e0, ← p5]
    exact sm_congr _ (fun d hd => by rw [hm d hd, sightS_dg (by omega) (by decide)])
theorem PI_hours {σ : Nat → Nat} {bd n : Nat} (hW : WF bd σ) (h : PI σ) : PI (hoS σ n) := by
  have e0 : hoS σ n 0 = σ 0 := rfl
  have e1 : hoS σ n 1 = σ 1 := rfl
  have e2 : hoS σ n 2 = σ 2 + n := rfl
  have e3 : hoS σ n 3 = σ 3 + sm (gro σ n) (σ 0) := rfl
  have hn := hW.n0
  have hm : ∀ d, d < σ 0 → msg (hoS σ n) d = msg σ d := fun d hd => by
    unfold msg
    rw [hoS_dg hd hn (by decide)]
    rfl
  obtain ⟨p1, p2, p3, p4, p5⟩ := h
  refine ⟨fun d hd9 hm9 => ?_, fun s hs9 h5 h6 => ?_, ?_, ?_, ?_⟩
  · rw [e0] at hd9
    rw [hm d hd9] at hm9
    rw [hoS_dg hd9 hn (by decide), hoS_dg hd9 hn (by decide), e2]
    have q := p1 d hd9 hm9
    show dg σ d 3 ≤ dg σ d 7 ∧ dg σ d 7 ≤ σ 2 + n
    omega
  · rw [e1] at hs9
    rw [hoS_sg (by decide)] at h5 h6
    have h7 := ((hW.ss hs9).2.2.2.2.2.1.resolve_left h5).1
    rw [hm _ h7] at h6
    rw [hoS_sg (by decide), hoS_sg (by decide), hoS_sg (by decide)]
    exact p2 s hs9 h5 h6
  · show σ 4 = _
    rw [p3]
    exact sm_congr 8 (fun f hf => (hoS_lo (i := 8 + f) (by omega) (by omega)).symm)
  · rw [e3, e0, p4, ← sm_add]
    exact sm_congr _ (fun d hd => by rw [hoS_dg hd hn (by decide), if_pos rfl])
  · show _ = σ 4 + σ 5
    rw [e0, ← p5]
    exact sm_congr _ (fun d hd => by
      rw [hm d hd, hoS_dg hd hn (by decide), if_pos rfl]
      by_cases q : msg σ d = true
      · rw [if_pos q, if_pos q]
      · rw [if_neg q, if_neg q]
        unfold gro
        rw [if_neg q, Nat.add_zero])
/-- a found dog's sightings -/
theorem frd_tru {σ : Nat → Nat} {s : Nat} (h5 : sg σ s 5 ≠ NN) (hg : msg σ (sg σ s 5) = true) : (tru σ s = true ∨ frd σ s = true) ∧ (sg σ s 4 = 1 → frd σ s = !tru σ s) := by
  unfold frd
  rw [if_neg h5, if_pos hg]
  by_cases q : tru σ s = true
  · rw [if_pos q]
    refine ⟨Or.inl q, fun e => ?_⟩
    rw [if_pos e, q]
    rfl
  · rw [if_neg q]
    exact ⟨Or.inr rfl, fun _ => by simp [q]⟩
theorem sm_mem {f : Nat → Nat} {d v : Nat} : ∀ n, d < n → (∀ i, i < n → i ≠ d → f i = 0) → f d = v → sm f n = v
  | 0, h, _, _ => absurd h (Nat.not_lt_zero _)
  | n + 1, h, h1, h2 => by
    show sm f n + f n = v
    by_cases e : d = n
    · subst e
      have z : sm f d = sm (fun _ => 0) d := sm_congr d (fun i hi => h1 i (by omega) (by omega))
      rw [z, sm_zero, h2, Nat.zero_add]
    · rw [sm_mem n (by omega) (fun i hi => h1 i (by omega)) h2, h1 n (by omega) (fun q => e q.symm), Nat.add_zero]
theorem msg_find {σ : Nat → Nat} {d fi c d' : Nat} (hd : d' < 6) (hc : c < 12) : msg (findS σ d fi c) d' = if d' = d then false else msg σ d' := by
  unfold msg
  rw [findS_dg hd (by decide)]
  by_cases e : d' = d
  · rw [if_pos e, if_pos e, if_pos rfl]
    exact decide_eq_false (fun q => by rw [q] at hc; exact absurd hc (by decide))
  · rw [if_neg e, if_neg e]
theorem PI_find {σ : Nat → Nat} {bd d fi c : Nat} (hW : WF bd σ) (hd : d < σ 0) (hg : msg σ d = true) (hf : fi < 8) (hc : c < 12) (h : PI σ) : PI (findS σ d fi c) := by
  have hn := hW.n0
  have e0 : findS σ d fi c 0 = σ 0 := rfl
  have e1 : findS σ d fi c 1 = σ 1 := rfl
  have e2 : findS σ d fi c 2 = σ 2 := rfl
  have e3 : findS σ d fi c 3 = σ 3 := rfl
  have e4 : findS σ d fi c 4 = σ 4 + sm (shr σ d fi c) 8 := rfl
  have e5 : findS σ d fi c 5 = σ 5 + (dg σ d 4 - sm (shr σ d fi c) 8) := rfl
  have hle := shr_le (d := d) (fi := fi) (c := c) (k := 8) hW hf (Nat.le_refl _)
  have h4 : ∀ d', d' < σ 0 → dg (findS σ d fi c) d' 4 = dg σ d' 4 := fun d' hd' => by
    rw [findS_dg (by omega) (by decide)]
    split
    · rename_i e; subst e; rfl
    · rfl
  obtain ⟨p1, p2, p3, p4, p5⟩ := h
  refine ⟨fun d' hd9 hm9 => ?_, fun s hs9 h5 h6 => ?_, ?_, ?_, ?_⟩
  · rw [e0] at hd9
    rw [findS_dg (by omega) (by decide), findS_dg (by omega) (by decide), e2]
    by_cases e : d' = d
    · subst e
      rw [if_pos rfl, if_pos rfl]
      show dg σ d' 3 ≤ σ 2 ∧ σ 2 ≤ σ 2
      exact ⟨(hW.db hd).2.2.2.2.1, Nat.le_refl _⟩
    · rw [msg_find (by omega) hc, if_neg e] at hm9
      rw [if_neg e, if_neg e]
      exact p1 d' hd9 hm9
  · rw [e1] at hs9
    rw [findS_s5 (by decide)] at h5 h6
    have h7 := ((hW.ss hs9).2.2.2.2.2.1.resolve_left h5).1
    rw [findS_sg (by decide), findS_sg (by decide), findS_sg (by decide)]
    by_cases e : sg σ s 5 = d
    · have k1 : s < σ 1 ∧ sg σ s 5 = d := ⟨hs9, e⟩
      rw [if_pos k1, if_pos k1, if_pos k1]
      show ((if tru σ s then 1 else 0) = 1 ∨ (if frd σ s then 1 else 0) = 1) ∧ (sg σ s 4 = 1 → (if frd σ s then 1 else 0) = 1 - (if tru σ s then 1 else 0))
      obtain ⟨q1, q2⟩ := frd_tru h5 (by rw [e]; exact hg)
      refine ⟨q1.imp (fun q => by rw [if_pos q]) (fun q => by rw [if_pos q]), fun z => ?_⟩
      rw [q2 z]
      cases tru σ s <;> rfl
    · rw [msg_find (by omega) hc, if_neg e] at h6
      have k1 : ¬ (s < σ 1 ∧ sg σ s 5 = d) := fun z => e z.2
      rw [if_neg k1, if_neg k1, if_neg k1]
      exact p2 s hs9 h5 h6
  · rw [e4, p3, ← sm_add]
    exact sm_congr 8 (fun f hf => (findS_pu hf).symm)
  · rw [e3, e0, p4]
    exact sm_congr _ (fun d' hd' => (h4 d' hd').symm)
  · rw [e0, e4, e5]
    have q : sm (fun d' => if msg (findS σ d fi c) d' then 0 else dg (findS σ d fi c) d' 4) (σ 0) = sm (fun d' => (if msg σ d' then 0 else dg σ d' 4) + (if d' = d then dg σ d 4 else 0)) (σ 0) := sm_congr _ (fun d' hd' => by
      rw [h4 d' hd', msg_find (by omega) hc]
      by_cases e : d' = d
      · subst e
        rw [if_pos rfl, hg, if_pos rfl]
        simp
      · rw [if_neg e, if_neg e, Nat.add_zero])
    rw [q, sm_add, p5, sm_mem (d := d) (v := dg σ d 4) (σ 0) hd (fun i _ hi => if_neg hi) (if_pos rfl)]
    omega
-- the way between corners
theorem wk_rev {σ : Nat → Nat} : ∀ (n a b : Nat), a < 12 → b < 12 → wk σ 12 n a b → wk σ 12 n b a
  | 0, a, b, _, _, e => (show a = b from e).symm
  | n + 1, a, b, ha, hb, ⟨c, h1, _, h3, h4⟩ => by
    have q := wk_cat h1 (wk_one (σ := σ) (m := 12) hb (by rw [adj_comm]; exact h4)) n a (wk_rev n a c ha h1 h3)
    rw [Nat.add_comm] at q
    exact q
theorem di_sym {σ : Nat → Nat} {a b : Nat} (ha : a < 12) (hb : b < 12) : di σ a b = di σ b a := by
  have h1 := di_le (σ := σ) ha hb
  have h2 := di_le (σ := σ) hb ha
  have g1 : di σ a b < 99 → di σ b a ≤ di σ a b := fun h => di_min hb ha h (wk_rev _ a b ha hb (di_wk ha hb h))
  have g2 : di σ b a < 99 → di σ a b ≤ di σ b a := fun h => di_min ha hb h (wk_rev _ b a hb ha (di_wk hb ha h))
  omega
theorem di_tri {σ : Nat → Nat} {a b c : Nat} (ha : a < 12) (hb : b < 12) (hc : c < 12) (h1 : di σ a b < 99) (h2 : di σ b c < 99) : di σ a c < 99 ∧ di σ a c ≤ di σ a b + di σ b c := by
  have q1 := di_11 ha hb h1
  have q2 := di_11 hb hc h2
  have q := di_min ha hc (by omega) (wk_cat hb (di_wk ha hb h1) _ c (di_wk hb hc h2))
  omega
theorem wv_sym {σ : Nat → Nat} {a b : Nat} (ha : a < 12) (hb : b < 12) : wv σ (12 * b + a) = wv σ (12 * a + b) := by rw [wv_at, wv_at, di_sym ha hb]
theorem wv_0 {σ : Nat → Nat} {a b : Nat} (ha : a < 12) (hb : b < 12) : wv σ (12 * a + b) = 0 ↔ a = b := by
  rw [wv_at]
  constructor
  · intro h
    by_cases q : di σ a b < 99
    · rw [if_pos q] at h
      exact di_zero ha hb (nz_eq h (by omega))
    · rw [if_neg q] at h
      exact absurd h (by decide)
  · intro h
    subst h
    rw [di_self ha]
    rfl
/-- the way as a number: NN is none -/
def wvN (σ : Nat → Nat) (a b : Nat) : Nat := if di σ a b < 99 then di σ a b else NN
theorem wvN_e {σ : Nat → Nat} {a b : Nat} : wv σ (12 * a + b) = nI (wvN σ a b) := by
  rw [wv_at]
  unfold wvN
  split
  · rfl
  · exact nI_NN.symm
theorem wvN_c {σ : Nat → Nat} {a b : Nat} (ha : a < 12) (hb : b < 12) : wvN σ a b = NN ∨ (wvN σ a b < 12 ∧ wvN σ a b = di σ a b) := by
  unfold wvN
  split
  · rename_i h
    exact Or.inr ⟨di_11 ha hb h, rfl⟩
  · exact Or.inl rfl
theorem wvN_sym {σ : Nat → Nat} {a b : Nat} (ha : a < 12) (hb : b < 12) : wvN σ a b = wvN σ b a := by unfold wvN; rw [di_sym ha hb]
theorem wvN_0 {σ : Nat → Nat} {a b : Nat} (ha : a < 12) (hb : b < 12) : wvN σ a b = 0 ↔ a = b := by
  unfold wvN
  constructor
  · intro h
    by_cases q : di σ a b < 99
    · rw [if_pos q] at h
      exact di_zero ha hb h
    · rw [if_neg q] at h
      exact absurd h (by decide)
  · intro h
    subst h
    rw [di_self ha]
    rfl
theorem wvN_tri {σ : Nat → Nat} {a b c : Nat} (ha : a < 12) (hb : b < 12) (hc : c < 12) (h1 : wvN σ a b ≠ NN) (h2 : wvN σ b c ≠ NN) : wvN σ a c ≠ NN ∧ wvN σ a c ≤ wvN σ a b + wvN σ b c := by
  rcases wvN_c (σ := σ) ha hb with q1 | ⟨q1, e1⟩
  · exact absurd q1 h1
  rcases wvN_c (σ := σ) hb hc with q2 | ⟨q2, e2⟩
  · exact absurd q2 h2
  have t := di_tri (σ := σ) ha hb hc (by omega) (by omega)
  have q3 := di_11 ha hc t.1
  have e3 : wvN σ a c = di σ a c := if_pos t.1
  rw [e1, e2, e3]
  exact ⟨fun q => by rw [q] at q3; exact absurd q3 (by decide), t.2⟩
-- what the numbers of a board add up to
theorem mng_all {σ : Nat → Nat} {bd : Nat} (h : WF bd σ) : sm (fun d => ct (mng σ d) (σ 1)) (σ 0) + ct (mng σ NN) (σ 1) = σ 1 := by
  have key : ∀ n, n ≤ σ 1 → sm (fun d => ct (mng σ d) n) (σ 0) + ct (mng σ NN) n = n := by
    intro n
    induction n with
    | zero =>
      intro _
      have : sm (fun d => ct (mng σ d) 0) (σ 0) = sm (fun _ => 0) (σ 0) := rfl
      rw [this, sm_zero]
      rfl
    | succ n ih =>
      intro hn
      have e : sm (fun d => ct (mng σ d) (n + 1)) (σ 0) = sm (fun d => ct (mng σ d) n) (σ 0) + sm (fun d => if sg σ n 5 = d then 1 else 0) (σ 0) := by
        rw [← sm_add]
        exact sm_congr _ (fun d _ => by
          show ct (mng σ d) n + (if mng σ d n then 1 else 0) = _
          unfold mng
          by_cases q : sg σ n 5 = d <;> simp [q])
      have e2 : ct (mng σ NN) (n + 1) = ct (mng σ NN) n + (if sg σ n 5 = NN then 1 else 0) := by
        show ct (mng σ NN) n + (if mng σ NN n then 1 else 0) = _
        unfold mng
        by_cases q : sg σ n 5 = NN <;> simp [q]
      rw [e, e2, sm_one]
      have hs := h.ss (show n < σ 1 by omega)
      have h0 := h.n0
      have hN : ¬ NN < σ 0 := by unfold NN; omega
      have i9 := ih (by omega)
      rcases hs.2.2.2.2.2.1 with q | ⟨q, -⟩
      · rw [q, if_neg hN, if_pos rfl]
        omega
      · rw [if_pos q, if_neg (fun z => hN (by rw [← z]; exact q))]
        omega
  exact key _ (Nat.le_refl _)
theorem sm_part {σ : Nat → Nat} : ∀ n, sm (fun d => dg σ d 4) n = sm (fun d => if msg σ d then dg σ d 4 else 0) n + sm (fun d => if msg σ d then 0 else dg σ d 4) n := by
  intro n
  rw [← sm_add]
  exact sm_congr _ (fun d _ => by cases msg σ d <;> simp)
theorem PI_coins {σ : Nat → Nat} (h : PI σ) : σ 3 = sm (fun d => dg σ d 4) (σ 0) ∧ sm (fun d => dg σ d 4) (σ 0) = sm (fun d => if msg σ d then dg σ d 4 else 0) (σ 0) + sm (pu σ) 8 + σ 5 ∧ σ 4 = sm (pu σ) 8 := by
  obtain ⟨-, -, p3, p4, p5⟩ := h
  refine ⟨p4, ?_, p3⟩
  rw [sm_part, p5, ← p3]
  omega
theorem wat_N {σ : Nat → Nat} : wat σ = NN ↔ ct (msg σ) (σ 0) = 0 := by
  unfold wat
  constructor
  · intro h
    apply Classical.byContradiction
    intro q
    rw [if_neg q] at h
    have := wtb_le (σ := σ) 11
    rw [h] at this
    exact absurd this (by decide)
  · intro h
    exact if_pos h
theorem wat_lt {σ : Nat → Nat} : wat σ < 2 ^ 32 := by
  unfold wat
  split
  · decide
  · have := wtb_le (σ := σ) 11
    omega
theorem unl_8 {σ : Nat → Nat} {d m : Nat} (h1 : dg σ d 0 < 256) (h2 : m < 256) : unl σ d m ≤ 8 := by
  have hx : dg σ d 0 ^^^ m < 2 ^ 8 := Nat.xor_lt_two_pow h1 h2
  have e : unl σ d m = ct (dg σ d 0 ^^^ m).testBit 8 := ct_more (n := 8) (fun i hi => Nat.testBit_lt_two_pow (Nat.lt_of_lt_of_le hx (Nat.pow_le_pow_right (by decide) hi))) 16
  rw [e]
  exact ct_le _ _
theorem cbe_rch {σ : Nat → Nat} {d c : Nat} (h : (mk (cbe σ d) 12).testBit c = true) : c < 12 ∧ rch σ (dg σ d 2) c (dg σ d 1 * (σ 2 - dg σ d 3)) = true := by
  rw [mk_bit] at h
  simp only [Bool.and_eq_true, decide_eq_true_eq] at h
  refine ⟨h.1, ?_⟩
  have q := h.2
  unfold cbe at q
  simp only [Bool.and_eq_true] at q
  exact q.1
theorem rch_wv {σ : Nat → Nat} {a b mo : Nat} (h : rch σ a b mo = true) : wvN σ a b = di σ a b ∧ di σ a b < 99 ∧ di σ a b ≤ mo := by
  unfold rch at h
  simp only [Bool.and_eq_true, decide_eq_true_eq] at h
  exact ⟨if_pos h.1, h.1, h.2⟩
theorem SG {σ : Nat → Nat} {bd s : Nat} (hW : WF bd σ) (hP : PI σ) (hs : s < σ 1) (h5 : sg σ s 5 ≠ NN) : (tru σ s = true ∨ frd σ s = true) ∧ (sg σ s 4 = 1 → frd σ s = !tru σ s) := by
  by_cases hm : msg σ (sg σ s 5) = true
  · exact frd_tru h5 hm
  · obtain ⟨q1, q2⟩ := hP.2.1 s hs h5 (by simpa using hm)
    have et : tru σ s = decide (sg σ s 6 = 1) := if_neg hm
    have ef : frd σ s = decide (sg σ s 7 = 1) := by unfold frd; rw [if_neg h5, if_neg hm]
    have b := hW.sb hs
    rw [et, ef]
    refine ⟨q1.imp decide_eq_true decide_eq_true, fun e => ?_⟩
    rw [q2 e]
    rcases (show sg σ s 6 = 0 ∨ sg σ s 6 = 1 by omega) with c | c <;> rw [c] <;> rfl
