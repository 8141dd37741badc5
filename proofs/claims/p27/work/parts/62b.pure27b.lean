/-! P27: what is remembered and saved (INV), what act does, what a sighting and a find tell. -/
def INV (σ : Nat → Nat) (Hh : Nat → Nat → Nat) (n : Nat) (K : Nat → Nat → Nat) (fl : Nat → Bool) : Prop :=
  PI σ ∧ 1 ≤ σ 0 ∧ (∀ k, k < n → PI (Hh k) ∧ (1 ≤ Hh k 0 ∨ (k = 0 ∧ (if n = 1 then σ 2 else Hh 1 2) < 2))) ∧ (∀ k, k < 2 → fl k = true → PI (K k) ∧ 1 ≤ K k 0)
section IV
variable {σ τ t : Nat → Nat} {Hh K : Nat → Nat → Nat} {n : Nat} {fl : Nat → Bool}
theorem hiH_l (h : n < 14) (k : Nat) : hiH Hh n σ k = if k = n then σ else Hh k := by unfold hiH; rw [if_pos h]
theorem hiH_g (h : ¬ n < 14) (k : Nat) : hiH Hh n σ k = if k = 13 then σ else Hh (k + 1) := by unfold hiH; rw [if_neg h]
theorem INV_op (h : INV σ Hh n K fl) (hn : n ≤ 14) (h1 : PI t) (h2 : 1 ≤ t 0) : INV t (hiH Hh n σ) (hiN n) K fl := by
  obtain ⟨p1, p2, p3, p4⟩ := h
  refine ⟨h1, h2, fun k hk => ?_, p4⟩
  unfold hiN at hk ⊢
  by_cases c : n < 14
  · rw [if_pos c] at hk ⊢
    rw [hiH_l c, hiH_l c]
    by_cases e : k = n
    · rw [if_pos e]
      exact ⟨p1, Or.inl p2⟩
    · rw [if_neg e]
      obtain ⟨q1, q2⟩ := p3 k (by omega)
      refine ⟨q1, q2.imp id (fun z => ⟨z.1, ?_⟩)⟩
      rw [if_neg (by omega)]
      have z2 := z.2
      by_cases e1 : n = 1
      · rw [if_pos e1] at z2
        rw [if_pos e1.symm]
        exact z2
      · rw [if_neg e1] at z2
        rw [if_neg (fun w => e1 w.symm)]
        exact z2
  · rw [if_neg c] at hk ⊢
    rw [hiH_g c, hiH_g c]
    by_cases e : k = 13
    · rw [if_pos e]
      exact ⟨p1, Or.inl p2⟩
    · rw [if_neg e]
      obtain ⟨q1, q2⟩ := p3 (k + 1) (by omega)
      exact ⟨q1, Or.inl (q2.resolve_right (fun z => by omega))⟩
theorem INV_if {fx : Nat} (h : INV σ Hh n K fl) (hn : n ≤ 14) (h1 : fx = 0 → PI t ∧ 1 ≤ t 0) : INV (if fx = 0 then t else σ) (if fx = 0 then hiH Hh n σ else Hh) (if fx = 0 then hiN n else n) K fl := by
  by_cases c : fx = 0
  · rw [if_pos c, if_pos c, if_pos c]
    exact INV_op h hn (h1 c).1 (h1 c).2
  · rw [if_neg c, if_neg c, if_neg c]
    exact h
theorem INV_und (h : INV σ Hh n K fl) (hn : n ≠ 0) (h2 : 2 ≤ σ 2) : INV (Hh (n - 1)) Hh (n - 1) K fl := by
  obtain ⟨p1, p2, p3, p4⟩ := h
  obtain ⟨q1, q2⟩ := p3 (n - 1) (by omega)
  refine ⟨q1, q2.resolve_right (fun z => ?_), fun k hk => ?_, p4⟩
  · have e : n = 1 := by omega
    have z2 := z.2
    rw [if_pos e] at z2
    omega
  · obtain ⟨r1, r2⟩ := p3 k (by omega)
    refine ⟨r1, r2.imp id (fun z => ⟨z.1, ?_⟩)⟩
    have z2 := z.2
    rw [if_neg (by omega)] at z2
    split
    · rename_i e
      rw [e]
      exact z2
    · exact z2
theorem INV_res {s : Nat} (h : INV σ Hh n K fl) (hs : s < 2) (hf : fl s = true) : INV (K s) Hh 0 K fl :=
  ⟨(h.2.2.2 s hs hf).1, (h.2.2.2 s hs hf).2, fun k hk => absurd hk (Nat.not_lt_zero _), h.2.2.2⟩
theorem INV_sav {s : Nat} (h : INV σ Hh n K fl) : INV σ Hh n (sv2 K s σ) (sv2 fl s true) := by
  obtain ⟨p1, p2, p3, p4⟩ := h
  refine ⟨p1, p2, p3, fun k hk hf => ?_⟩
  unfold sv2 at hf ⊢
  by_cases e : k = s
  · rw [if_pos e]
    exact ⟨p1, p2⟩
  · rw [if_neg e] at hf ⊢
    exact p4 k hk hf
theorem hiN_b (hn : n ≤ 14) : 1 ≤ hiN n ∧ hiN n ≤ 14 := by
  unfold hiN
  split <;> omega
theorem hiH_top (hn : n ≤ 14) : hiH Hh n σ (hiN n - 1) = σ := by
  unfold hiN
  by_cases c : n < 14
  · rw [if_pos c, hiH_l c, if_pos (by omega)]
  · rw [if_neg c, hiH_g c, if_pos (by omega)]
theorem hiH_und (hn : 1 ≤ n) (hn2 : n ≤ 14) : hiH Hh n τ (hiN n - 1 - 1) = Hh (n - 1) := by
  unfold hiN
  by_cases c : n < 14
  · rw [if_pos c, hiH_l c, if_neg (by omega)]
    congr 1
  · rw [if_neg c, hiH_g c, if_neg (by omega)]
    congr 1
    omega
theorem INV_back (h : INV σ Hh n K fl) (hn : n ≤ 14) : INV σ (hiH Hh n σ) (hiN n - 1) K fl := by
  obtain ⟨p1, p2, p3, p4⟩ := h
  refine ⟨p1, p2, fun k hk => ?_, p4⟩
  unfold hiN at hk ⊢
  by_cases c : n < 14
  · rw [if_pos c] at hk ⊢
    rw [hiH_l c, hiH_l c, if_neg (show ¬ k = n by omega)]
    obtain ⟨q1, q2⟩ := p3 k (by omega)
    refine ⟨q1, q2.imp id (fun z => ⟨z.1, ?_⟩)⟩
    have z2 := z.2
    by_cases e1 : n = 1
    · rw [if_pos e1] at z2
      rw [if_pos (by omega)]
      exact z2
    · rw [if_neg e1] at z2
      rw [if_neg (by omega), if_neg (fun w => e1 w.symm)]
      exact z2
  · rw [if_neg c] at hk ⊢
    rw [hiH_g c, if_neg (show ¬ k = 13 by omega)]
    obtain ⟨q1, q2⟩ := p3 (k + 1) (by omega)
    exact ⟨q1, Or.inl (q2.resolve_right (fun z => by omega))⟩
theorem INV_back2 (h : INV σ Hh n K fl) (hn : n ≤ 14) : INV σ (hiH (hiH Hh n σ) (hiN n) τ) (hiN (hiN n) - 1 - 1) K fl := by
  have hb := INV_back h hn
  obtain ⟨b1, b2⟩ := hiN_b hn
  obtain ⟨p1, p2, p3, p4⟩ := hb
  refine ⟨p1, p2, fun k hk => ?_, p4⟩
  by_cases c : hiN n < 14
  · have e : hiN (hiN n) = hiN n + 1 := by unfold hiN at c ⊢; rw [if_pos c]
    rw [e] at hk ⊢
    rw [hiH_l c, hiH_l c, if_neg (show ¬ k = hiN n by omega)]
    obtain ⟨q1, q2⟩ := p3 k (by omega)
    refine ⟨q1, q2.imp id (fun z => ⟨z.1, ?_⟩)⟩
    have z2 := z.2
    by_cases e1 : hiN n - 1 = 1
    · rw [if_pos e1] at z2
      rw [if_pos (by omega)]
      exact z2
    · rw [if_neg e1] at z2
      rw [if_neg (by omega), if_neg (by omega)]
      exact z2
  · have e : hiN (hiN n) = hiN n := by
      have e9 : hiN (hiN n) = if hiN n < 14 then hiN n + 1 else hiN n := rfl
      rw [e9, if_neg c]
    rw [e] at hk
    rw [hiH_g c, if_neg (show ¬ k = 13 by omega)]
    obtain ⟨q1, q2⟩ := p3 (k + 1) (by omega)
    exact ⟨q1, Or.inl (q2.resolve_right (fun z => by omega))⟩
end IV
-- what the actions keep
theorem PO_lose {σ : Nat → Nat} {bd : Nat} {m p c r : Int32} (hW : WF bd σ) (h : PI σ) (hf : fLose σ m p c r = 0) : PI (loseR σ m p c r) ∧ 1 ≤ loseR σ m p c r 0 := by
  obtain ⟨m9, p9, c9, r9, -, -, -, -, -, -, -, -, h6⟩ := fLose_0 hf
  unfold loseR
  rw [if_pos hf]
  exact ⟨PI_lose hW h6 h, by show 1 ≤ σ 0 + 1; omega⟩
theorem PO_sight {σ : Nat → Nat} {bd : Nat} {f c m a : Int32} {ph : Bool} (hW : WF bd σ) (h : PI σ) (h1 : 1 ≤ σ 0) (hf : fTell σ f c m a = 0) : PI (sightR σ f c m a ph) ∧ 1 ≤ sightR σ f c m a ph 0 := by
  unfold sightR
  rw [if_pos hf]
  exact ⟨PI_sight hW h, h1⟩
theorem PO_find {σ : Nat → Nat} {bd : Nat} {d f c : Int32} (hW : WF bd σ) (h : PI σ) (h1 : 1 ≤ σ 0) (hf : fFind σ d f c = 0) : PI (findR σ d f c) ∧ 1 ≤ findR σ d f c 0 := by
  have hn := hW.n0
  obtain ⟨d9, f9, c9, ⟨rfl, rfl, rfl⟩, a1, a2, a3, a4⟩ := fFind_0 hn hf
  rw [(findR_0 (by omega) a3 a4 hf).1]
  exact ⟨PI_find hW a1 a2 a3 a4 h, h1⟩
theorem PO_close {σ : Nat → Nat} {a b : Int32} {on : Bool} (h : PI σ) (h1 : 1 ≤ σ 0) (hf : fClose a b = 0) : PI (closeR σ a b on) ∧ 1 ≤ closeR σ a b on 0 := by
  obtain ⟨a9, b9, rfl, rfl, h3, h4, h5⟩ := fClose_0 hf
  unfold closeR
  rw [if_pos hf, nI_clamp (by omega), nI_clamp (by omega)]
  exact ⟨PI_close h h5, by rw [clS_hi h5 (Or.inl (by decide))]; exact h1⟩
theorem PO_set {σ : Nat → Nat} {w v : Int32} (h : PI σ) (h1 : 1 ≤ σ 0) (hf : fSet w v = 0) : PI (setR σ w v) ∧ 1 ≤ setR σ w v 0 := by
  unfold setR
  rw [if_pos hf]
  exact ⟨PI_set h, h1⟩
theorem PO_hours {σ : Nat → Nat} {bd : Nat} {v : Int32} (hW : WF bd σ) (h : PI σ) (h1 : 1 ≤ σ 0) (hf : fPass v = 0) : PI (hoursR σ v) ∧ 1 ≤ hoursR σ v 0 := by
  unfold hoursR
  rw [if_pos hf]
  exact ⟨PI_hours hW h, h1⟩
-- act
abbrev S5 : Type := (Nat → Nat) × (Nat → Nat → Nat) × Nat × (Nat → Nat → Nat) × (Nat → Bool)
def opS (fx : Nat) (t : Nat → Nat) (σ : Nat → Nat) (Hh : Nat → Nat → Nat) (n : Nat) (K : Nat → Nat → Nat) (fl : Nat → Bool) : S5 := (if fx = 0 then t else σ, if fx = 0 then hiH Hh n σ else Hh, if fx = 0 then hiN n else n, K, fl)
def aMk (σ : Nat → Nat) (y : Nat) : Nat := dg σ (y / 96 % σ 0) 0 ^^^ (if y / 576 % 3 = 0 then 2 ^ (y / 1728 % 8) else 0)
def aTo (y : Nat) : Nat := if y / 12 % 2 = 0 then y % 12 + 1 else y % 12 + 4
def aPh (y : Nat) : Bool := decide (y / 82944 % 2 = 0)
def aOn (y : Nat) : Bool := decide (0 < y / 24 % 3)
def aHo (y : Nat) : Nat := 1 + y % (if y / 99 % 4 = 0 then 99 else 5)
def acV (v : Nat) (σ : Nat → Nat) (n : Nat) (K : Nat → Nat → Nat) (fl : Nat → Bool) : Int32 :=
  if v % 16 < 2 then an (fLose σ (nI (1 + v / 16 % 255)) (nI (1 + v / 16 / 255 % 3)) (nI (v / 16 / 765 % 12)) (nI (1 + v / 16 / 9180 % 500))) (nI (σ 0))
  else if v % 16 < 7 then an (fTell σ (nI (v / 16 % 8)) (nI (v / 16 / 8 % 12)) (nI (aMk σ (v / 16))) (nI (v / 16 / 13824 % 6))) (nI (sightA σ (nI (v / 16 % 8)) (nI (v / 16 / 8 % 12)) (nI (aMk σ (v / 16))) (nI (v / 16 / 13824 % 6))))
  else if v % 16 < 8 then an (fFind σ (nI (v / 16 % σ 0)) (nI (v / 16 / 6 % 8)) (nI (v / 16 / 48 % 12))) (nI (findA σ (nI (v / 16 % σ 0)) (nI (v / 16 / 6 % 8)) (nI (v / 16 / 48 % 12))))
  else if v % 16 < 10 then an (fClose (nI (v / 16 % 12)) (nI (aTo (v / 16)))) (nI (closeA σ (nI (v / 16 % 12)) (nI (aTo (v / 16))) (aOn (v / 16))))
  else if v % 16 < 11 then (if v / 16 % 2 = 0 then an (fSet (nI 0) (nI (v / 16 / 2 % 51))) (nI (setA σ (nI 0) (nI (v / 16 / 2 % 51)))) else an (fSet (nI 1) (nI (v / 16 / 2 % 9))) (nI (setA σ (nI 1) (nI (v / 16 / 2 % 9)))))
  else if v % 16 < 12 then (if σ 2 < 2 then nI NN else an (fUnd n) (nI (n - 1)))
  else if v % 16 < 13 then (if v / 16 % 2 = 0 then nI (σ 2) else an (fRes fl (nI (v / 16 / 2 % 2))) (nI (K (nI (v / 16 / 2 % 2)).toNatClampNeg 2)))
  else an (fPass (nI (aHo (v / 16)))) (nI (hoursA σ (nI (aHo (v / 16)))))
def acS (v : Nat) (σ : Nat → Nat) (Hh : Nat → Nat → Nat) (n : Nat) (K : Nat → Nat → Nat) (fl : Nat → Bool) : S5 :=
  if v % 16 < 2 then opS (fLose σ (nI (1 + v / 16 % 255)) (nI (1 + v / 16 / 255 % 3)) (nI (v / 16 / 765 % 12)) (nI (1 + v / 16 / 9180 % 500))) (loseR σ (nI (1 + v / 16 % 255)) (nI (1 + v / 16 / 255 % 3)) (nI (v / 16 / 765 % 12)) (nI (1 + v / 16 / 9180 % 500))) σ Hh n K fl
  else if v % 16 < 7 then opS (fTell σ (nI (v / 16 % 8)) (nI (v / 16 / 8 % 12)) (nI (aMk σ (v / 16))) (nI (v / 16 / 13824 % 6))) (sightR σ (nI (v / 16 % 8)) (nI (v / 16 / 8 % 12)) (nI (aMk σ (v / 16))) (nI (v / 16 / 13824 % 6)) (aPh (v / 16))) σ Hh n K fl
  else if v % 16 < 8 then opS (fFind σ (nI (v / 16 % σ 0)) (nI (v / 16 / 6 % 8)) (nI (v / 16 / 48 % 12))) (findR σ (nI (v / 16 % σ 0)) (nI (v / 16 / 6 % 8)) (nI (v / 16 / 48 % 12))) σ Hh n K fl
  else if v % 16 < 10 then opS (fClose (nI (v / 16 % 12)) (nI (aTo (v / 16)))) (closeR σ (nI (v / 16 % 12)) (nI (aTo (v / 16))) (aOn (v / 16))) σ Hh n K fl
  else if v % 16 < 11 then (if v / 16 % 2 = 0 then opS (fSet (nI 0) (nI (v / 16 / 2 % 51))) (setR σ (nI 0) (nI (v / 16 / 2 % 51))) σ Hh n K fl else opS (fSet (nI 1) (nI (v / 16 / 2 % 9))) (setR σ (nI 1) (nI (v / 16 / 2 % 9))) σ Hh n K fl)
  else if v % 16 < 12 then (if σ 2 < 2 then (σ, Hh, n, K, fl) else (if fUnd n = 0 then Hh (n - 1) else σ, Hh, if fUnd n = 0 then n - 1 else n, K, fl))
  else if v % 16 < 13 then (if v / 16 % 2 = 0 then (σ, Hh, n, sv2 K (nI (v / 16 / 2 % 2)).toNatClampNeg σ, sv2 fl (nI (v / 16 / 2 % 2)).toNatClampNeg true) else (if fRes fl (nI (v / 16 / 2 % 2)) = 0 then K (nI (v / 16 / 2 % 2)).toNatClampNeg else σ, Hh, if fRes fl (nI (v / 16 / 2 % 2)) = 0 then 0 else n, K, fl))
  else opS (fPass (nI (aHo (v / 16)))) (hoursR σ (nI (aHo (v / 16)))) σ Hh n K fl
theorem INV_ac {bd v n : Nat} {σ : Nat → Nat} {Hh K : Nat → Nat → Nat} {fl : Nat → Bool} (hW : WF bd σ) (h : INV σ Hh n K fl) (hn : n ≤ 14) : INV (acS v σ Hh n K fl).1 (acS v σ Hh n K fl).2.1 (acS v σ Hh n K fl).2.2.1 (acS v σ Hh n K fl).2.2.2.1 (acS v σ Hh n K fl).2.2.2.2 := by
  have hp := h.1
  have h1 := h.2.1
  unfold acS
  by_cases c1 : v % 16 < 2
  · rw [if_pos c1]; exact INV_if h hn (fun e => PO_lose hW hp e)
  rw [if_neg c1]
  by_cases c2 : v % 16 < 7
  · rw [if_pos c2]; exact INV_if h hn (fun e => PO_sight hW hp h1 e)
  rw [if_neg c2]
  by_cases c3 : v % 16 < 8
  · rw [if_pos c3]; exact INV_if h hn (fun e => PO_find hW hp h1 e)
  rw [if_neg c3]
  by_cases c4 : v % 16 < 10
  · rw [if_pos c4]; exact INV_if h hn (fun e => PO_close hp h1 e)
  rw [if_neg c4]
  by_cases c5 : v % 16 < 11
  · rw [if_pos c5]
    by_cases d5 : v / 16 % 2 = 0
    · rw [if_pos d5]; exact INV_if h hn (fun e => PO_set hp h1 e)
    · rw [if_neg d5]; exact INV_if h hn (fun e => PO_set hp h1 e)
  rw [if_neg c5]
  by_cases c6 : v % 16 < 12
  · rw [if_pos c6]
    by_cases d6 : σ 2 < 2
    · rw [if_pos d6]; exact h
    · rw [if_neg d6]
      by_cases d7 : fUnd n = 0
      · show INV (if fUnd n = 0 then Hh (n - 1) else σ) Hh (if fUnd n = 0 then n - 1 else n) K fl
        rw [if_pos d7, if_pos d7]
        exact INV_und h (fun e => by rw [e] at d7; exact absurd d7 (by decide)) (by omega)
      · show INV (if fUnd n = 0 then Hh (n - 1) else σ) Hh (if fUnd n = 0 then n - 1 else n) K fl
        rw [if_neg d7, if_neg d7]
        exact h
  rw [if_neg c6]
  by_cases c7 : v % 16 < 13
  · rw [if_pos c7]
    have hs : v / 16 / 2 % 2 < 2 := Nat.mod_lt _ (by decide)
    by_cases d8 : v / 16 % 2 = 0
    · rw [if_pos d8]; exact INV_sav h
    · rw [if_neg d8]
      by_cases d9 : fRes fl (nI (v / 16 / 2 % 2)) = 0
      · show INV (if fRes fl (nI (v / 16 / 2 % 2)) = 0 then K (nI (v / 16 / 2 % 2)).toNatClampNeg else σ) Hh (if fRes fl (nI (v / 16 / 2 % 2)) = 0 then 0 else n) K fl
        rw [if_pos d9, if_pos d9, nI_clamp (by omega)]
        rw [fRes_in hs] at d9
        refine INV_res h hs ?_
        apply Classical.byContradiction
        intro q
        rw [if_neg q] at d9
        cases d9
      · show INV (if fRes fl (nI (v / 16 / 2 % 2)) = 0 then K (nI (v / 16 / 2 % 2)).toNatClampNeg else σ) Hh (if fRes fl (nI (v / 16 / 2 % 2)) = 0 then 0 else n) K fl
        rw [if_neg d9, if_neg d9]
        exact h
  rw [if_neg c7]
  exact INV_if h hn (fun e => PO_hours hW hp h1 e)
theorem aHo_b (y : Nat) : 1 ≤ aHo y ∧ aHo y ≤ 99 := by
  unfold aHo
  have h1 := Nat.mod_lt y (show 0 < 99 by decide)
  have h2 := Nat.mod_lt y (show 0 < 5 by decide)
  by_cases c : y / 99 % 4 = 0
  · rw [if_pos c]; omega
  · rw [if_neg c]; omega
theorem closeA_lt {σ : Nat → Nat} {a b : Int32} {on : Bool} (h : fClose a b = 0) : closeA σ a b on < 2 ^ 31 := by
  have q := ct_le (cmk (closeR σ a b on)).testBit 24
  unfold closeA
  rw [if_pos h]
  omega
theorem sbt_l4 : ∀ a, a < 8 → sbt a (a + 4) 17 < 17 := by decide +kernel
theorem hiN_2 {m : Nat} (h : 1 ≤ m) : 2 ≤ hiN m := by
  unfold hiN
  split <;> omega
-- codes
def thB (v : Int32) : Bool := decide (v = -9999001) || (decide (v = -9999002) || decide (v = -9999003))
theorem thB_n {k : Nat} (h : k < 2 ^ 31) : thB (nI k) = false := by
  have q : ∀ z : Int32, z < 0 → nI k ≠ z := fun z hz e => nI_pos h (by rw [e]; exact hz)
  unfold thB
  rw [decide_eq_false (q _ (by decide)), decide_eq_false (q _ (by decide)), decide_eq_false (q _ (by decide))]
  rfl
-- a sighting now, with a photo
theorem rch_of {σ τ : Nat → Nat} (h : ∀ i, 16 ≤ i → i < 40 → τ i = σ i) {a b mo : Nat} (ha : a < 12) (hb : b < 12) : rch τ a b mo = rch σ a b mo := by
  unfold rch
  rw [di_of h ha hb]
section SE
variable {σ : Nat → Nat} {bd f c m d s o : Nat}
theorem see_d (hd : d < 6) (k : Nat) (hk : k < 8) : dg (sightS σ f c m 0 1) d k = dg σ d k := sightS_dg hd hk
theorem see_m (hd : d < 6) : msg (sightS σ f c m 0 1) d = msg σ d := by unfold msg; rw [see_d hd 5 (by decide)]
theorem see_g (hs : s < σ 1) (k : Nat) (hk : k < 8) : sg (sightS σ f c m 0 1) s k = sg σ s k := sightS_sg hs hk
theorem see_r {a b mo : Nat} (ha : a < 12) (hb : b < 12) : rch (sightS σ f c m 0 1) a b mo = rch σ a b mo := rch_of (fun i h1 h2 => sightS_lo (by omega) h2) ha hb
theorem see_frd (hW : WF bd σ) (h : mea σ m (σ 2 - 0) = d) (hd : d ≠ NN) : frd (sightS σ f c m 0 1) (σ 1) = !tru (sightS σ f c m 0 1) (σ 1) ∧ msg σ d = true ∧ d < σ 0 ∧ sg (sightS σ f c m 0 1) (σ 1) 5 = d := by
  obtain ⟨q1, q2, -⟩ := (mea_ok (σ := σ) (m := m) (h := σ 2 - 0)).resolve_left (fun e => hd (h.symm.trans e))
  rw [h] at q1 q2
  have hn := hW.n0
  have e5 : sg (sightS σ f c m 0 1) (σ 1) 5 = d := by rw [sightS_new (by decide)]; exact h
  refine ⟨?_, q2, q1, e5⟩
  exact (frd_tru (by rw [e5]; exact hd) (by rw [e5, see_m (by omega)]; exact q2)).2 (by rw [sightS_new (by decide)]; rfl)
theorem see_1 (hW : WF bd σ) (hc : c < 12) (h : mea σ m (σ 2 - 0) = d) (hd : d ≠ NN) (ht : tru (sightS σ f c m 0 1) (σ 1) = true) : mk (cbe (sightS σ f c m 0 1) d) 12 = 0 ∨ mk (cbe (sightS σ f c m 0 1) d) 12 = 2 ^ c := by
  obtain ⟨g1, g2, g3, g4⟩ := see_frd (f := f) (c := c) hW h hd
  have only : ∀ i, i < 12 → cbe (sightS σ f c m 0 1) d i = true → i = c := by
    intro i hi hb
    unfold cbe at hb
    simp only [Bool.and_eq_true] at hb
    have q := al_iff.mp hb.2 (σ 1) (Nat.lt_succ_self _)
    have hh : hon (sightS σ f c m 0 1) d (σ 1) = true := by
      unfold hon mng
      rw [g4, g1, ht]
      simp
    rw [hh] at q
    simp only [Bool.not_true, Bool.false_or] at q
    have e1 : sg (sightS σ f c m 0 1) (σ 1) 1 = c := by rw [sightS_new (by decide)]; rfl
    have e2 : sg (sightS σ f c m 0 1) (σ 1) 2 = σ 2 - 0 := by rw [sightS_new (by decide)]; rfl
    have e3 : sightS σ f c m 0 1 2 = σ 2 := rfl
    rw [e1, e2, e3, show σ 2 - (σ 2 - 0) = 0 by omega, Nat.mul_zero] at q
    have q9 := (rch_wv q).2.2
    exact (di_zero hc hi (Nat.le_zero.mp q9)).symm
  by_cases hb : cbe (sightS σ f c m 0 1) d c = true
  · refine Or.inr (mk_ext (Nat.pow_lt_pow_right (by decide) hc) (fun i hi => ?_)).symm
    rw [Nat.testBit_two_pow]
    by_cases e : c = i
    · subst e
      rw [hb]
      simp
    · rw [decide_eq_false e]
      cases hq : cbe (sightS σ f c m 0 1) d i with
      | false => rfl
      | true => exact absurd (only i hi hq).symm e
  · refine Or.inl (mk_zero.mpr (fun i hi => ?_))
    cases hq : cbe (sightS σ f c m 0 1) d i with
    | false => rfl
    | true =>
      have e := only i hi hq
      rw [e] at hq
      exact absurd hq hb
theorem see_tru (hW : WF bd σ) (hd : d < σ 0) (hs : s < σ 1) (h5 : sg σ s 5 = d) : tru (sightS σ f c m 0 1) s = tru σ s := by
  have hn := hW.n0
  have b1 := (hW.sb hs).2.1
  have b2 := (hW.db hd).2.2.2.1
  have h6 : d < 6 := by omega
  unfold tru
  rw [see_g hs 5 (by decide), see_g hs 1 (by decide), see_g hs 2 (by decide), see_g hs 6 (by decide), h5, see_m h6, see_d h6 2 (by decide), see_d h6 1 (by decide), see_d h6 3 (by decide), see_r b2 b1]
theorem see_oth (hW : WF bd σ) (hd : d < σ 0) (hs : s < σ 1) (ho : o < σ 1) (h5 : sg σ s 5 = d) : oth (sightS σ f c m 0 1) s o = oth σ s o := by
  unfold oth
  rw [see_g hs 5 (by decide), see_g ho 5 (by decide)]
  by_cases e : sg σ o 5 = sg σ s 5
  · rw [see_tru hW hd ho (e.trans h5)]
  · rw [decide_eq_false e, Bool.false_and, Bool.false_and]
theorem see_fit (hW : WF bd σ) (hd : d < σ 0) (hs : s < σ 1) (ho : o < σ 1) (h5 : sg σ s 5 = d) : fit (sightS σ f c m 0 1) s o = fit σ s o := by
  have hn := hW.n0
  unfold fit
  rw [see_g hs 5 (by decide), see_g hs 1 (by decide), see_g ho 1 (by decide), see_g hs 2 (by decide), see_g ho 2 (by decide), h5, see_d (by omega) 1 (by decide), see_r (hW.sb hs).2.1 (hW.sb ho).2.1]
theorem see_frS (hW : WF bd σ) (hd : d < σ 0) (hdn : d ≠ NN) (hg : msg σ d = true) (hs : s < σ 1) (h5 : sg σ s 5 = d) (ht : tru (sightS σ f c m 0 1) (σ 1) = false) : frd (sightS σ f c m 0 1) s = frd σ s := by
  have hn := hW.n0
  have e1 : sightS σ f c m 0 1 1 = σ 1 + 1 := rfl
  have z : ∀ p : Nat → Bool, ex (fun o => oth (sightS σ f c m 0 1) s o && p o) (σ 1 + 1) = ex (fun o => oth (sightS σ f c m 0 1) s o && p o) (σ 1) := fun p => by
    show (ex _ (σ 1) || (oth (sightS σ f c m 0 1) s (σ 1) && p (σ 1))) = _
    have q : oth (sightS σ f c m 0 1) s (σ 1) = false := by unfold oth; rw [ht, Bool.and_false, Bool.and_false]
    rw [q, Bool.false_and, Bool.or_false]
  have z1 : ex (oth (sightS σ f c m 0 1) s) (σ 1 + 1) = ex (oth (sightS σ f c m 0 1) s) (σ 1) := by
    show (ex _ (σ 1) || oth (sightS σ f c m 0 1) s (σ 1)) = _
    have q : oth (sightS σ f c m 0 1) s (σ 1) = false := by unfold oth; rw [ht, Bool.and_false, Bool.and_false]
    rw [q, Bool.or_false]
  rw [frd_of hdn (by rw [see_m (by omega)]; exact hg) (by unfold mng; rw [see_g hs 5 (by decide), h5]; simp), frd_of hdn hg (by unfold mng; rw [h5]; simp), see_tru hW hd hs h5, see_g hs 4 (by decide), e1, z1, z, ex_congr (σ 1) (fun o ho => see_oth hW hd hs ho h5), ex_congr (p := fun o => oth (sightS σ f c m 0 1) s o && fit (sightS σ f c m 0 1) s o) (q := fun o => oth σ s o && fit σ s o) (σ 1) (fun o ho => by rw [see_oth hW hd hs ho h5, see_fit hW hd hs ho h5])]
theorem see_0 (hW : WF bd σ) (h : mea σ m (σ 2 - 0) = d) (hd : d ≠ NN) (ht : tru (sightS σ f c m 0 1) (σ 1) = false) : mk (cbe (sightS σ f c m 0 1) d) 12 = mk (cbe σ d) 12 := by
  obtain ⟨g1, g2, g3, g4⟩ := see_frd (f := f) (c := c) hW h hd
  have hn := hW.n0
  have h6 : d < 6 := by omega
  refine mk_congr 12 (fun i hi => ?_)
  have hl : hon (sightS σ f c m 0 1) d (σ 1) = false := by unfold hon; rw [g1, ht]; simp
  have e2 : sightS σ f c m 0 1 2 = σ 2 := rfl
  show (rch _ _ i _ && (al _ (σ 1) && (!hon (sightS σ f c m 0 1) d (σ 1) || _))) = _
  rw [hl, Bool.not_false, Bool.true_or, Bool.and_true, see_d h6 2 (by decide), see_d h6 1 (by decide), see_d h6 3 (by decide), see_r (hW.db g3).2.2.2.1 hi, e2]
  unfold cbe
  congr 1
  refine al_congr (σ 1) (fun s hs => ?_)
  have hh : hon (sightS σ f c m 0 1) d s = hon σ d s := by
    unfold hon mng
    rw [see_g hs 5 (by decide)]
    by_cases e : sg σ s 5 = d
    · rw [see_frS hW g3 hd g2 hs e ht]
    · rw [decide_eq_false e, Bool.false_and, Bool.false_and]
  rw [hh, see_g hs 1 (by decide), see_g hs 2 (by decide), see_r (hW.sb hs).2.1 hi]
end SE
-- a dog is found
section FD
variable {σ : Nat → Nat} {bd d fi c s o d' : Nat}
theorem fnd_d (hd : d' < 6) (hne : d' ≠ d) (k : Nat) (hk : k < 8) : dg (findS σ d fi c) d' k = dg σ d' k := by rw [findS_dg hd hk, if_neg hne]
theorem fnd_m (hd : d' < 6) (hne : d' ≠ d) : msg (findS σ d fi c) d' = msg σ d' := by unfold msg; rw [fnd_d hd hne 5 (by decide)]
theorem fnd_r {a b mo : Nat} (ha : a < 12) (hb : b < 12) : rch (findS σ d fi c) a b mo = rch σ a b mo := rch_of (fun i h1 h2 => findS_lo h1 h2) ha hb
theorem fnd_tru (hW : WF bd σ) (hd : d' < σ 0) (hne : d' ≠ d) (hs : s < σ 1) (h5 : sg σ s 5 = d') : tru (findS σ d fi c) s = tru σ s := by
  have hn := hW.n0
  have b1 := (hW.sb hs).2.1
  have b2 := (hW.db hd).2.2.2.1
  have h6 : d' < 6 := by omega
  unfold tru
  rw [findS_s5 (by decide), findS_s5 (by decide), findS_s5 (by decide), findS_sg (by decide), if_neg (show ¬ (s < σ 1 ∧ sg σ s 5 = d) from fun z => hne (h5.symm.trans z.2)), h5, fnd_m h6 hne, fnd_d h6 hne 2 (by decide), fnd_d h6 hne 1 (by decide), fnd_d h6 hne 3 (by decide), fnd_r b2 b1]
theorem fnd_oth (hW : WF bd σ) (hd : d' < σ 0) (hne : d' ≠ d) (ho : o < σ 1) (h5 : sg σ s 5 = d') : oth (findS σ d fi c) s o = oth σ s o := by
  unfold oth
  rw [findS_s5 (by decide), findS_s5 (by decide)]
  by_cases e : sg σ o 5 = sg σ s 5
  · rw [fnd_tru hW hd hne ho (e.trans h5)]
  · rw [decide_eq_false e, Bool.false_and, Bool.false_and]
theorem fnd_fit (hW : WF bd σ) (hd : d' < σ 0) (hne : d' ≠ d) (hs : s < σ 1) (ho : o < σ 1) (h5 : sg σ s 5 = d') : fit (findS σ d fi c) s o = fit σ s o := by
  have hn := hW.n0
  unfold fit
  rw [findS_s5 (by decide), findS_s5 (by decide), findS_s5 (by decide), findS_s5 (by decide), findS_s5 (by decide), h5, fnd_d (by omega) hne 1 (by decide), fnd_r (hW.sb hs).2.1 (hW.sb ho).2.1]
theorem fnd_frd (hW : WF bd σ) (hd : d < σ 0) (hc : c < 12) (hs : s < σ 1) : frd (findS σ d fi c) s = frd σ s := by
  have hn := hW.n0
  by_cases h5 : sg σ s 5 = NN
  · unfold frd
    rw [findS_s5 (by decide), if_pos h5, if_pos h5]
  · have h7 := ((hW.ss hs).2.2.2.2.2.1.resolve_left h5).1
    by_cases e : sg σ s 5 = d
    · have e9 : frd (findS σ d fi c) s = decide (sg (findS σ d fi c) s 7 = 1) := by
        unfold frd
        rw [findS_s5 (by decide), if_neg h5, e, msg_find (by omega) hc, if_pos rfl]
        rfl
      rw [e9, findS_sg (by decide), if_pos (show s < σ 1 ∧ sg σ s 5 = d from ⟨hs, e⟩)]
      show decide ((if frd σ s then 1 else 0) = 1) = _
      cases frd σ s <;> rfl
    · by_cases hm : msg σ (sg σ s 5) = true
      · rw [frd_of (d := sg σ s 5) h5 (by rw [fnd_m (by omega) e]; exact hm) (by unfold mng; rw [findS_s5 (by decide)]; simp), frd_of (d := sg σ s 5) h5 hm (by unfold mng; simp), fnd_tru hW h7 e hs rfl, findS_s5 (by decide)]
        have e1 : findS σ d fi c 1 = σ 1 := rfl
        rw [e1, ex_congr (σ 1) (fun o ho => fnd_oth hW h7 e ho rfl), ex_congr (p := fun o => oth (findS σ d fi c) s o && fit (findS σ d fi c) s o) (q := fun o => oth σ s o && fit σ s o) (σ 1) (fun o ho => by rw [fnd_oth hW h7 e ho rfl, fnd_fit hW h7 e hs ho rfl])]
      · unfold frd
        rw [findS_s5 (by decide), if_neg h5, if_neg h5, fnd_m (by omega) e, if_neg hm, if_neg hm, findS_sg (by decide), if_neg (show ¬ (s < σ 1 ∧ sg σ s 5 = d) from fun z => e z.2)]
theorem fnd_frauds (hW : WF bd σ) (hd : d < σ 0) (hc : c < 12) : ct (frd (findS σ d fi c)) (findS σ d fi c 1) = ct (frd σ) (σ 1) := ct_congr (σ 1) (fun _ hs => fnd_frd hW hd hc hs)
theorem hon_kept {τ τ' : Nat → Nat} (h : ∀ i, 40 ≤ i → τ' i = τ i) (h1 : τ' 1 = τ 1) (hm : msg τ d = false) : ct (hon τ' d) (τ' 1) = ct (hon τ d) (τ 1) := by
  rw [h1]
  refine ct_congr _ (fun s _ => ?_)
  have hg : ∀ k, sg τ' s k = sg τ s k := fun k => by unfold sg; exact h _ (by omega)
  have hm' : msg τ' d = false := by rw [← hm]; unfold msg dg; rw [h _ (by omega)]
  unfold hon mng
  rw [hg]
  by_cases e : sg τ s 5 = d
  · have e2 : frd τ' s = frd τ s := by
      unfold frd
      rw [hg 5, hg 7, e, hm, hm', if_neg Bool.false_ne_true, if_neg Bool.false_ne_true]
    rw [e2]
  · rw [decide_eq_false e, Bool.false_and, Bool.false_and]
theorem sm_div2 {r A : Nat} {g : Nat → Nat} (hA : 0 < A) : ∀ k, r * sm g k ≤ sm (fun f => r * g f / A) k * A + k * (A - 1)
  | 0 => by simp [sm]
  | k + 1 => by
    have ih := sm_div2 (r := r) (g := g) hA k
    have q := Nat.div_add_mod (r * g k) A
    have q2 := Nat.mod_lt (r * g k) hA
    show r * (sm g k + g k) ≤ (sm (fun f => r * g f / A) k + r * g k / A) * A + (k + 1) * (A - 1)
    rw [Nat.mul_add, Nat.add_mul, Nat.add_mul, Nat.mul_comm (r * g k / A) A]
    omega
theorem shr_ge (hW : WF bd σ) (hf : fi < 8) : dg σ d 4 - sm (shr σ d fi c) 8 < 8 := by
  have hA := hW.hA d c
  have q := sm_div2 (r := dg σ d 4) (A := hAll σ d c) (g := hOf σ d fi c) (by omega) 8
  rw [hO_sum hW hf] at q
  have q : dg σ d 4 * hAll σ d c ≤ sm (shr σ d fi c) 8 * hAll σ d c + 8 * (hAll σ d c - 1) := q
  apply Classical.byContradiction
  intro z
  have q3 : (sm (shr σ d fi c) 8 + 8) * hAll σ d c ≤ dg σ d 4 * hAll σ d c := Nat.mul_le_mul_right _ (by omega)
  rw [Nat.add_mul] at q3
  omega
end FD
theorem fnd_close {σ : Nat → Nat} {bd d fi c a : Nat} (hW : WF bd σ) (hd : d < σ 0) (hc : c < 12) (ha : a < 8) :
    ct (hon (clS (findS σ d fi c) (sbt a (a + 4) 17) true) d) (clS (findS σ d fi c) (sbt a (a + 4) 17) true 1) = ct (hon (findS σ d fi c) d) (findS σ d fi c 1) ∧ dg (clS (findS σ d fi c) (sbt a (a + 4) 17) true) d 4 = dg σ d 4 := by
  have hn := hW.n0
  have hk := sbt_l4 a ha
  refine ⟨hon_kept (fun i h => clS_hi hk (Or.inr h)) (clS_hi hk (Or.inl (by decide))) (by rw [msg_find (by omega) hc, if_pos rfl]), ?_⟩
  have e : dg (clS (findS σ d fi c) (sbt a (a + 4) 17) true) d 4 = dg (findS σ d fi c) d 4 := clS_hi hk (Or.inr (by omega))
  rw [e, findS_dg (by omega) (by decide), if_pos rfl]
  rfl
