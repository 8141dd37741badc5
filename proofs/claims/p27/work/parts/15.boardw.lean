/-! WHAT CALLS DO TO A BOARD'S STATE, and that the class's rows follow. -/
def NN2 : Nat := 4294967294
def bs (b : Nat → Nat → Int32) (j : Nat) (f : Nat → Int32) : Nat → Nat → Int32 := fun k => if k = j then f else b k
/-- streets, purses unchanged: ways, closed streets as they were -/
theorem cmk_of {σ τ : Nat → Nat} (h : ∀ i, 16 ≤ i → i < 40 → τ i = σ i) : cmk τ = cmk σ := mk_congr 17 (fun k hk => by
  have q := spl_ok k hk
  rw [h (spl k) q.2.1 q.2.2])
theorem adj_of {σ τ : Nat → Nat} (h : ∀ i, 16 ≤ i → i < 40 → τ i = σ i) (a b : Nat) (ha : a < 12) (hb : b < 12) : adj τ a b = adj σ a b := adj_cl (cmk_of h) ha hb
theorem di_of {σ τ : Nat → Nat} (h : ∀ i, 16 ≤ i → i < 40 → τ i = σ i) {a b : Nat} (ha : a < 12) (hb : b < 12) : di τ a b = di σ a b := D_cl (cmk_of h) _ (by omega)
theorem pu_of {σ τ : Nat → Nat} (h : ∀ i, 8 ≤ i → i < 16 → τ i = σ i) : ∀ f, f < 8 → mS (pu σ) f = mS (pu τ) f := fun f hf => by
  show nI (σ (8 + f)) = nI (τ (8 + f))
  rw [h (8 + f) (by omega) (by omega)]
-- lose
def fLose (σ : Nat → Nat) (m p c r : Int32) : Nat := if inR c (nI 0) (nI 11) then (if inR m (nI 1) (nI 255) && (inR p (nI 1) (nI 3) && inR r (nI 1) (nI 500)) then (if 6 ≤ σ 0 then 3 else 0) else 2) else 1
def lsRow (σ : Nat → Nat) (m p c r k : Nat) : Nat := if k = 0 then m else if k = 1 then p else if k = 2 then c else if k = 3 then σ 2 else if k = 4 then r else NN
def loseS (σ : Nat → Nat) (m p c r : Nat) : Nat → Nat := fun i => if i < 40 then (if i = 0 then σ 0 + 1 else if i = 3 then σ 3 + r else σ i) else if 40 + 8 * σ 0 ≤ i ∧ i < 48 + 8 * σ 0 then lsRow σ m p c r (i - (40 + 8 * σ 0)) else σ i
def loseR (σ : Nat → Nat) (m p c r : Int32) : Nat → Nat := if fLose σ m p c r = 0 then loseS σ m.toNatClampNeg p.toNatClampNeg c.toNatClampNeg r.toNatClampNeg else σ
theorem fLose_0 {σ : Nat → Nat} {m p c r : Int32} (h : fLose σ m p c r = 0) : ∃ m9 p9 c9 r9 : Nat, (m = nI m9 ∧ p = nI p9 ∧ c = nI c9 ∧ r = nI r9) ∧ 1 ≤ m9 ∧ m9 ≤ 255 ∧ 1 ≤ p9 ∧ p9 ≤ 3 ∧ c9 < 12 ∧ 1 ≤ r9 ∧ r9 ≤ 500 ∧ σ 0 < 6 := by
  unfold fLose at h
  by_cases h1 : inR c (nI 0) (nI 11) = true
  · rw [if_pos h1] at h
    by_cases h2 : (inR m (nI 1) (nI 255) && (inR p (nI 1) (nI 3) && inR r (nI 1) (nI 500))) = true
    · rw [if_pos h2] at h
      simp only [Bool.and_eq_true] at h2
      obtain ⟨c9, a1, a2, rfl⟩ := inR_ex (by decide) (by decide) h1
      obtain ⟨m9, b1, b2, rfl⟩ := inR_ex (by decide) (by decide) h2.1
      obtain ⟨p9, d1, d2, rfl⟩ := inR_ex (by decide) (by decide) h2.2.1
      obtain ⟨r9, e1, e2, rfl⟩ := inR_ex (by decide) (by decide) h2.2.2
      refine ⟨m9, p9, c9, r9, ⟨rfl, rfl, rfl, rfl⟩, b1, b2, d1, d2, by omega, e1, e2, ?_⟩
      by_cases h3 : 6 ≤ σ 0
      · rw [if_pos h3] at h; omega
      · omega
    · rw [if_neg h2] at h; omega
  · rw [if_neg h1] at h; omega
theorem loseR_0 {σ : Nat → Nat} {m p c r : Nat} (hm : m ≤ 255) (hp : p ≤ 3) (hc : c < 12) (hr : r ≤ 500) (h : fLose σ (nI m) (nI p) (nI c) (nI r) = 0) : loseR σ (nI m) (nI p) (nI c) (nI r) = loseS σ m p c r := by
  unfold loseR
  rw [if_pos h, nI_clamp (by omega), nI_clamp (by omega), nI_clamp (by omega), nI_clamp (by omega)]
section LS
variable {σ : Nat → Nat} {m p c r d s k : Nat}
theorem loseS_lo {i : Nat} (h : 8 ≤ i) (h2 : i < 40) : loseS σ m p c r i = σ i := by
  unfold loseS
  rw [if_pos h2, if_neg (by omega), if_neg (by omega)]
theorem loseS_dg (hd : d < σ 0) (hk : k < 8) : dg (loseS σ m p c r) d k = dg σ d k := by
  unfold dg loseS
  rw [if_neg (by omega), if_neg (by omega)]
theorem loseS_new (hk : k < 8) : dg (loseS σ m p c r) (σ 0) k = lsRow σ m p c r k := by
  unfold dg loseS
  rw [if_neg (by omega), if_pos (by omega)]
  congr 1
  omega
theorem loseS_sg (hn : σ 0 < 6) : sg (loseS σ m p c r) s k = sg σ s k := by
  unfold sg loseS
  rw [if_neg (by omega), if_neg (by omega)]
end LS
/-- the dogs' rows behind lose -/
def lsD (cf : Nat → Int32) (n : Nat) (m p c h r : Int32) : Nat → Int32 :=
  upd (upd (upd (upd (upd (upd (upd (upd (upd (zrI cf (n * 11) 11) (n * 11 + 0) m) (n * 11 + 1) p) (n * 11 + 2) c) (n * 11 + 3) h) (n * 11 + 4) r) (n * 11 + 5) (nI 1)) (n * 11 + 6) (nI NN)) (n * 11 + 7) (nI NN)) (n * 11 + 8) (nI NN)
theorem lsD_o {cf : Nat → Int32} {n d k : Nat} {m p c h r : Int32} (hd : d < n) (hk : k < 11) : lsD cf n m p c h r (d * 11 + k) = cf (d * 11 + k) := by
  have hne : d ≠ n := by omega
  unfold lsD
  rw [upd_r hne (by decide) hk, upd_r hne (by decide) hk, upd_r hne (by decide) hk, upd_r hne (by decide) hk, upd_r hne (by decide) hk, upd_r hne (by decide) hk, upd_r hne (by decide) hk, upd_r hne (by decide) hk, upd_r hne (by decide) hk, zrI_n (by omega)]
theorem BR_lose {σ : Nat → Nat} {b : Nat → Nat → Int32} {m p c r : Nat} (h : BR σ b) (hn : σ 0 < 6) : BR (loseS σ m p c r) (bs b 2 (lsD (b 2) (σ 0) (nI m) (nI p) (nI c) (nI (σ 2)) (nI r))) := by
  have h1 : loseS σ m p c r 1 = σ 1 := rfl
  have h0 : loseS σ m p c r 0 = σ 0 + 1 := rfl
  refine ⟨fun d hd => ?_, fun s hs k hk => ?_⟩
  · rw [h0] at hd
    by_cases e : d = σ 0
    · subst e
      have hmsg : msg (loseS σ m p c r) (σ 0) = true := by unfold msg; rw [loseS_new (by decide)]; rfl
      refine ⟨fun k hk => ?_, ?_, fun k hk => ?_, fun q => by rw [hmsg] at q; cases q⟩
      · show lsD (b 2) (σ 0) _ _ _ _ _ _ = _
        rw [loseS_new (by omega)]
        rcases (show k = 0 ∨ k = 1 ∨ k = 2 ∨ k = 3 ∨ k = 4 by omega) with rfl | rfl | rfl | rfl | rfl <;> simp [lsD, upd, lsRow]
      · show lsD (b 2) (σ 0) _ _ _ _ _ _ = _
        rw [hmsg]
        simp [lsD, upd, bI, nI_o]
      · show lsD (b 2) (σ 0) _ _ _ _ _ _ = _
        rw [loseS_new (by omega)]
        rcases (show k = 0 ∨ k = 1 ∨ k = 2 by omega) with rfl | rfl | rfl <;> simp [lsD, upd, lsRow]
    · have hd2 : d < σ 0 := by omega
      obtain ⟨q1, q2, q3, q4⟩ := h.1 d hd2
      have hm : msg (loseS σ m p c r) d = msg σ d := by unfold msg; rw [loseS_dg hd2 (by decide)]
      have hT : ∀ s, mng (loseS σ m p c r) d s = mng σ d s := fun s => by unfold mng; rw [loseS_sg hn]
      refine ⟨fun k hk => ?_, ?_, fun k hk => ?_, fun q => ?_⟩
      · show lsD (b 2) (σ 0) _ _ _ _ _ (d * 11 + k) = _
        rw [lsD_o hd2 (by omega), loseS_dg hd2 (by omega), q1 k hk]
      · show lsD (b 2) (σ 0) _ _ _ _ _ (d * 11 + 5) = _
        rw [lsD_o hd2 (by omega), hm, q2]
      · show lsD (b 2) (σ 0) _ _ _ _ _ (d * 11 + (6 + k)) = _
        rw [lsD_o hd2 (by omega), loseS_dg hd2 (by omega), q3 k hk]
      · rw [hm] at q
        have q4 := q4 q
        refine ⟨?_, ?_⟩
        · show lsD (b 2) (σ 0) _ _ _ _ _ (d * 11 + 9) = _
          rw [lsD_o hd2 (by omega), q4.1, h1]
          exact congrArg nI (mk_congr _ (fun s _ => by unfold stT; rw [hT, loseS_sg hn]))
        · show lsD (b 2) (σ 0) _ _ _ _ _ (d * 11 + 10) = _
          rw [lsD_o hd2 (by omega), q4.2, h1]
          exact congrArg nI (mk_congr _ (fun s _ => by unfold stF; rw [hT, loseS_sg hn]))
  · show b 3 (s * 6 + k) = _
    rw [loseS_sg hn]
    exact h.2 s hs k hk
theorem WF_lose {σ : Nat → Nat} {bd m p c r : Nat} (h : WF bd σ) (hn : σ 0 < 6) (hm : m ≤ 255) (hp1 : 1 ≤ p) (hp : p ≤ 3) (hc : c < 12) (hr : r ≤ 500) : WF bd (loseS σ m p c r) := by
  obtain ⟨h1, h2, h3, h4, h5, h6, h7, h8, h9⟩ := h
  have e0 : loseS σ m p c r 0 = σ 0 + 1 := rfl
  have e2 : loseS σ m p c r 2 = σ 2 := rfl
  refine ⟨h1, h2, by rw [e0]; omega, h4, h5, h6, fun d hd => ?_, fun s hs => ?_, fun i hi hi2 => ?_⟩
  · rw [e0] at hd
    by_cases e : d = σ 0
    · subst e
      unfold wfD
      rw [loseS_new (by decide), loseS_new (by decide), loseS_new (by decide), loseS_new (by decide), loseS_new (by decide), loseS_new (by decide), e2]
      exact ⟨show m < 256 by omega, hp1, hp, hc, Nat.le_refl _, by show r ≤ _; omega, (show NN < 2 ^ 32 by decide)⟩
    · have hd2 : d < σ 0 := by omega
      have q := h7 d hd2
      unfold wfD at q ⊢
      rw [loseS_dg hd2 (by decide), loseS_dg hd2 (by decide), loseS_dg hd2 (by decide), loseS_dg hd2 (by decide), loseS_dg hd2 (by decide), loseS_dg hd2 (by decide), e2]
      exact q
  · have q := h8 s hs
    unfold wfS at q ⊢
    rw [loseS_sg hn, loseS_sg hn, loseS_sg hn, loseS_sg hn, loseS_sg hn, loseS_sg hn, loseS_sg hn, loseS_sg hn, e2, e0]
    obtain ⟨g1, g2, g3, g4, g5, g6, g7, g8⟩ := q
    refine ⟨g1, g2, g3, g4, g5, ?_, g7, g8⟩
    rcases g6 with e | ⟨g6, g9⟩
    · exact Or.inl e
    · exact Or.inr ⟨by omega, by rw [loseS_dg g6 (by decide)]; exact g9⟩
  · rw [loseS_lo (by omega) hi2]
    exact h9 i hi hi2
-- sight
def fTell (σ : Nat → Nat) (f c m ago : Int32) : Nat := if inR f (nI 0) (nI 7) && inR c (nI 0) (nI 11) then (if inR m (nI 0) (nI 255) && (inR ago (nI 0) (nI 99) && !decide (nI (σ 2) < ago)) then (if 20 ≤ σ 1 then 3 else 0) else 2) else 1
def siRow (σ : Nat → Nat) (f c m ago ph k : Nat) : Nat := if k = 0 then f else if k = 1 then c else if k = 2 then σ 2 - ago else if k = 3 then m else if k = 4 then ph else if k = 5 then mea σ m (σ 2 - ago) else 0
def sightS (σ : Nat → Nat) (f c m ago ph : Nat) : Nat → Nat := fun i => if i < 40 then (if i = 1 then σ 1 + 1 else σ i) else if 88 + 8 * σ 1 ≤ i ∧ i < 96 + 8 * σ 1 then siRow σ f c m ago ph (i - (88 + 8 * σ 1)) else σ i
def sightR (σ : Nat → Nat) (f c m ago : Int32) (ph : Bool) : Nat → Nat := if fTell σ f c m ago = 0 then sightS σ f.toNatClampNeg c.toNatClampNeg m.toNatClampNeg ago.toNatClampNeg (if ph then 1 else 0) else σ
def sightA (σ : Nat → Nat) (f c m ago : Int32) : Nat := if fTell σ f c m ago = 0 then mea σ m.toNatClampNeg (σ 2 - ago.toNatClampNeg) else NN2
theorem fTell_0 {σ : Nat → Nat} {f c m ago : Int32} (h2 : σ 2 < 2 ^ 31) (h : fTell σ f c m ago = 0) : ∃ f9 c9 m9 a9 : Nat, (f = nI f9 ∧ c = nI c9 ∧ m = nI m9 ∧ ago = nI a9) ∧ f9 < 8 ∧ c9 < 12 ∧ m9 ≤ 255 ∧ a9 ≤ 99 ∧ a9 ≤ σ 2 ∧ σ 1 < 20 := by
  unfold fTell at h
  by_cases h1 : (inR f (nI 0) (nI 7) && inR c (nI 0) (nI 11)) = true
  · rw [if_pos h1] at h
    by_cases h3 : (inR m (nI 0) (nI 255) && (inR ago (nI 0) (nI 99) && !decide (nI (σ 2) < ago))) = true
    · rw [if_pos h3] at h
      simp only [Bool.and_eq_true, Bool.not_eq_true', decide_eq_false_iff_not] at h1 h3
      obtain ⟨f9, a1, a2, rfl⟩ := inR_ex (by decide) (by decide) h1.1
      obtain ⟨c9, b1, b2, rfl⟩ := inR_ex (by decide) (by decide) h1.2
      obtain ⟨m9, d1, d2, rfl⟩ := inR_ex (by decide) (by decide) h3.1
      obtain ⟨a9, e1, e2, rfl⟩ := inR_ex (by decide) (by decide) h3.2.1
      have e3 : a9 ≤ σ 2 := nc_nlt h2 (by omega) h3.2.2
      refine ⟨f9, c9, m9, a9, ⟨rfl, rfl, rfl, rfl⟩, by omega, by omega, by omega, e2, e3, ?_⟩
      by_cases h4 : 20 ≤ σ 1
      · rw [if_pos h4] at h; omega
      · omega
    · rw [if_neg h3] at h; omega
  · rw [if_neg h1] at h; omega
theorem sightR_0 {σ : Nat → Nat} {f c m a : Nat} {ph : Bool} (hf : f < 8) (hc : c < 12) (hm : m ≤ 255) (ha : a ≤ 99) (h : fTell σ (nI f) (nI c) (nI m) (nI a) = 0) : sightR σ (nI f) (nI c) (nI m) (nI a) ph = sightS σ f c m a (if ph then 1 else 0) ∧ sightA σ (nI f) (nI c) (nI m) (nI a) = mea σ m (σ 2 - a) := by
  unfold sightR sightA
  rw [if_pos h, if_pos h, nI_clamp (by omega), nI_clamp (by omega), nI_clamp (by omega), nI_clamp (by omega)]
  exact ⟨rfl, rfl⟩
section SS
variable {σ : Nat → Nat} {f c m ago ph d s k : Nat}
theorem sightS_lo {i : Nat} (h : 8 ≤ i) (h2 : i < 40) : sightS σ f c m ago ph i = σ i := by
  unfold sightS
  rw [if_pos h2, if_neg (by omega)]
theorem sightS_dg (hd : d < 6) (hk : k < 8) : dg (sightS σ f c m ago ph) d k = dg σ d k := by
  unfold dg sightS
  rw [if_neg (by omega), if_neg (by omega)]
theorem sightS_new (hk : k < 8) : sg (sightS σ f c m ago ph) (σ 1) k = siRow σ f c m ago ph k := by
  unfold sg sightS
  rw [if_neg (by omega), if_pos (by omega)]
  congr 1
  omega
theorem sightS_sg (hs : s < σ 1) (hk : k < 8) : sg (sightS σ f c m ago ph) s k = sg σ s k := by
  unfold sg sightS
  rw [if_neg (by omega), if_neg (by omega)]
end SS
def ssD (cf : Nat → Int32) (n : Nat) (f c h m ph d : Int32) : Nat → Int32 :=
  upd (upd (upd (upd (upd (upd (zrI cf (n * 6) 6) (n * 6 + 0) f) (n * 6 + 1) c) (n * 6 + 2) h) (n * 6 + 3) m) (n * 6 + 4) ph) (n * 6 + 5) d
theorem ssD_o {cf : Nat → Int32} {n s k : Nat} {f c h m ph d : Int32} (hs : s < n) (hk : k < 6) : ssD cf n f c h m ph d (s * 6 + k) = cf (s * 6 + k) := by
  have hne : s ≠ n := by omega
  unfold ssD
  rw [upd_r hne (by decide) hk, upd_r hne (by decide) hk, upd_r hne (by decide) hk, upd_r hne (by decide) hk, upd_r hne (by decide) hk, upd_r hne (by decide) hk, zrI_n (by omega)]
theorem BR_sight {σ : Nat → Nat} {b : Nat → Nat → Int32} {f c m ago ph : Nat} (h : BR σ b) (hn : σ 0 ≤ 6) : BR (sightS σ f c m ago ph) (bs b 3 (ssD (b 3) (σ 1) (nI f) (nI c) (nI (σ 2 - ago)) (nI m) (nI ph) (nI (mea σ m (σ 2 - ago))))) := by
  have h1 : sightS σ f c m ago ph 1 = σ 1 + 1 := rfl
  have h0 : sightS σ f c m ago ph 0 = σ 0 := rfl
  refine ⟨fun d hd => ?_, fun s hs k hk => ?_⟩
  · rw [h0] at hd
    obtain ⟨q1, q2, q3, q4⟩ := h.1 d hd
    have hd6 : d < 6 := by omega
    have hm : msg (sightS σ f c m ago ph) d = msg σ d := by unfold msg; rw [sightS_dg hd6 (by decide)]
    refine ⟨fun k hk => ?_, ?_, fun k hk => ?_, fun q => ?_⟩
    · show b 2 _ = _
      rw [sightS_dg hd6 (by omega), q1 k hk]
    · show b 2 _ = _
      rw [hm, q2]
    · show b 2 _ = _
      rw [sightS_dg hd6 (by omega), q3 k hk]
    · rw [hm] at q
      have q4 := q4 q
      rw [h1]
      refine ⟨?_, ?_⟩
      · show b 2 _ = _
        rw [q4.1, mk_s0 (by unfold stT; rw [sightS_new (by decide)]; simp [siRow])]
        exact congrArg nI (mk_congr _ (fun s hs => by unfold stT mng; rw [sightS_sg hs (by decide), sightS_sg hs (by decide)]))
      · show b 2 _ = _
        rw [q4.2, mk_s0 (by unfold stF; rw [sightS_new (by decide)]; simp [siRow])]
        exact congrArg nI (mk_congr _ (fun s hs => by unfold stF mng; rw [sightS_sg hs (by decide), sightS_sg hs (by decide)]))
  · rw [h1] at hs
    show ssD (b 3) (σ 1) _ _ _ _ _ _ (s * 6 + k) = _
    by_cases e : s = σ 1
    · subst e
      rw [sightS_new (by omega)]
      rcases (show k = 0 ∨ k = 1 ∨ k = 2 ∨ k = 3 ∨ k = 4 ∨ k = 5 by omega) with rfl | rfl | rfl | rfl | rfl | rfl <;> simp [ssD, upd, siRow]
    · rw [ssD_o (by omega) hk, sightS_sg (by omega) (by omega)]
      exact h.2 s (by omega) k hk
theorem mea_lt {σ : Nat → Nat} {m h : Nat} : mea σ m h = NN ∨ mea σ m h < σ 0 := mei_lt
theorem bst_ok {σ : Nat → Nat} {m h : Nat} : ∀ n, bst σ m h n = NN ∨ (msg σ (bst σ m h n) = true ∧ dg σ (bst σ m h n) 3 ≤ h)
  | 0 => Or.inl rfl
  | n + 1 => by
    have ih := bst_ok (σ := σ) (m := m) (h := h) n
    unfold bst
    split
    · rename_i q
      simp only [Bool.and_eq_true, decide_eq_true_eq] at q
      split
      · exact Or.inr q
      · split
        · exact Or.inr q
        · exact ih
    · exact ih
theorem mea_ok {σ : Nat → Nat} {m h : Nat} : mea σ m h = NN ∨ (mea σ m h < σ 0 ∧ msg σ (mea σ m h) = true ∧ dg σ (mea σ m h) 3 ≤ h) := by
  unfold mea
  by_cases q : bst σ m h (σ 0) ≠ NN ∧ unl σ (bst σ m h (σ 0)) m ≤ σ 7
  · rw [if_pos q]
    exact Or.inr ⟨(bst_lt (σ 0)).resolve_left q.1, (bst_ok (σ 0)).resolve_left q.1⟩
  · rw [if_neg q]
    exact Or.inl rfl
theorem WF_sight {σ : Nat → Nat} {bd f c m ago ph : Nat} (h : WF bd σ) (hn : σ 1 < 20) (hf : f < 8) (hc : c < 12) (hm : m ≤ 255) (hp : ph ≤ 1) : WF bd (sightS σ f c m ago ph) := by
  have n0 := h.n0
  obtain ⟨h1, h2, h3, h4, h5, h6, h7, h8, h9⟩ := h
  have e1 : sightS σ f c m ago ph 1 = σ 1 + 1 := rfl
  have e0 : sightS σ f c m ago ph 0 = σ 0 := rfl
  have e2 : sightS σ f c m ago ph 2 = σ 2 := rfl
  refine ⟨h1, h2, h3, by rw [e1]; omega, h5, h6, fun d hd => ?_, fun s hs => ?_, fun i hi hi2 => ?_⟩
  · rw [e0] at hd
    have q := h7 d hd
    have hd6 : d < 6 := by omega
    unfold wfD at q ⊢
    rw [sightS_dg hd6 (by decide), sightS_dg hd6 (by decide), sightS_dg hd6 (by decide), sightS_dg hd6 (by decide), sightS_dg hd6 (by decide), sightS_dg hd6 (by decide), e2]
    exact q
  · rw [e1] at hs
    by_cases e : s = σ 1
    · subst e
      unfold wfS
      rw [sightS_new (by decide), sightS_new (by decide), sightS_new (by decide), sightS_new (by decide), sightS_new (by decide), sightS_new (by decide), sightS_new (by decide), sightS_new (by decide), e2, e0]
      refine ⟨hf, hc, Nat.sub_le _ _, show m < 256 by omega, hp, ?_, Nat.zero_le _, Nat.zero_le _⟩
      show mea σ m (σ 2 - ago) = NN ∨ (mea σ m (σ 2 - ago) < σ 0 ∧ dg (sightS σ f c m ago ph) (mea σ m (σ 2 - ago)) 3 ≤ σ 2 - ago)
      rcases mea_ok (σ := σ) (m := m) (h := σ 2 - ago) with q | ⟨q1, _, q3⟩
      · exact Or.inl q
      · exact Or.inr ⟨q1, by rw [sightS_dg (by omega) (by decide)]; exact q3⟩
    · have hs2 : s < σ 1 := by omega
      have q := h8 s hs2
      unfold wfS at q ⊢
      rw [sightS_sg hs2 (by decide), sightS_sg hs2 (by decide), sightS_sg hs2 (by decide), sightS_sg hs2 (by decide), sightS_sg hs2 (by decide), sightS_sg hs2 (by decide), sightS_sg hs2 (by decide), sightS_sg hs2 (by decide), e2, e0]
      obtain ⟨g1, g2, g3, g4, g5, g6, g7, g8⟩ := q
      refine ⟨g1, g2, g3, g4, g5, ?_, g7, g8⟩
      rcases g6 with e | ⟨g6, g9⟩
      · exact Or.inl e
      · exact Or.inr ⟨g6, by rw [sightS_dg (by omega) (by decide)]; exact g9⟩
  · rw [sightS_lo (by omega) hi2]
    exact h9 i hi hi2
def fFind (σ : Nat → Nat) (d f c : Int32) : Nat := if inR f (nI 0) (nI 7) && inR c (nI 0) (nI 11) then fAsk σ d else 1
def fPass (n : Int32) : Nat := if inR n (nI 1) (nI 99) then 0 else 2
def fClose (a b : Int32) : Nat := if inR a (nI 0) (nI 11) && inR b (nI 0) (nI 11) then (if sbt a.toNatClampNeg b.toNatClampNeg 17 = NN then 2 else 0) else 1
def fSet (w v : Int32) : Nat := if (decide (w = 0) && inR v (nI 0) (nI 50)) || (decide (w = nI 1) && inR v (nI 0) (nI 8)) then 0 else 2
def setS (σ : Nat → Nat) (z : Bool) (v : Nat) : Nat → Nat := fun i => if i < 40 then (if i = 6 then (if z then v else σ 6) else if i = 7 then (if z then σ 7 else v) else σ i) else σ i
def setR (σ : Nat → Nat) (w v : Int32) : Nat → Nat := if fSet w v = 0 then setS σ (decide (w = 0)) v.toNatClampNeg else σ
def setA (σ : Nat → Nat) (w v : Int32) : Nat := if fSet w v = 0 then (if w = 0 then σ 6 else σ 7) else NN2
theorem fSet_0 {w v : Int32} (h : fSet w v = 0) : ∃ v9, v = nI v9 ∧ v9 ≤ 50 ∧ (w = 0 ∨ (w = nI 1 ∧ v9 ≤ 8)) := by
  unfold fSet at h
  by_cases q : ((decide (w = 0) && inR v (nI 0) (nI 50)) || (decide (w = nI 1) && inR v (nI 0) (nI 8))) = true
  · simp only [Bool.or_eq_true, Bool.and_eq_true, decide_eq_true_eq] at q
    rcases q with ⟨q1, q2⟩ | ⟨q1, q2⟩
    · obtain ⟨j, _, h2, rfl⟩ := inR_ex (by decide) (by decide) q2
      exact ⟨j, rfl, h2, Or.inl q1⟩
    · obtain ⟨j, _, h2, rfl⟩ := inR_ex (by decide) (by decide) q2
      exact ⟨j, rfl, by omega, Or.inr ⟨q1, h2⟩⟩
  · rw [if_neg q] at h
    omega
theorem setS_lo {σ : Nat → Nat} {z : Bool} {v i : Nat} (h : 8 ≤ i) : setS σ z v i = σ i := by
  unfold setS
  split
  · rw [if_neg (by omega), if_neg (by omega)]
  · rfl
/-- dogs and sightings as they were: the class's rows are as they were -/
theorem BR_same {σ τ : Nat → Nat} {b : Nat → Nat → Int32} (h : BR σ b) (h0 : τ 0 = σ 0) (h1 : τ 1 = σ 1) (hs : ∀ i, 40 ≤ i → τ i = σ i) : BR τ b := by
  have hd : ∀ d k, dg τ d k = dg σ d k := fun d k => by unfold dg; exact hs _ (by omega)
  have hg : ∀ s k, sg τ s k = sg σ s k := fun s k => by unfold sg; exact hs _ (by omega)
  have hm : ∀ d, msg τ d = msg σ d := fun d => by unfold msg; rw [hd]
  refine ⟨fun d hd9 => ?_, fun s hs9 k hk => ?_⟩
  · rw [h0] at hd9
    obtain ⟨q1, q2, q3, q4⟩ := h.1 d hd9
    refine ⟨fun k hk => by rw [hd]; exact q1 k hk, by rw [hm]; exact q2, fun k hk => by rw [hd]; exact q3 k hk, fun q => ?_⟩
    rw [hm] at q
    rw [h1]
    have q4 := q4 q
    refine ⟨q4.1.trans (congrArg nI (mk_congr _ (fun s _ => by unfold stT mng; rw [hg, hg]))), q4.2.trans (congrArg nI (mk_congr _ (fun s _ => by unfold stF mng; rw [hg, hg])))⟩
  · rw [h1] at hs9
    rw [hg]
    exact h.2 s hs9 k hk
theorem WF_same {σ τ : Nat → Nat} {bd : Nat} (h : WF bd σ) (h0 : τ 0 = σ 0) (h1 : τ 1 = σ 1) (h2 : τ 2 = σ 2) (h6 : τ 6 ≤ 50) (h7 : τ 7 ≤ 8) (hs : ∀ i, 16 ≤ i → τ i = σ i) : WF bd τ := by
  obtain ⟨a1, a2, a3, a4, a5, a6, a7, a8, a9⟩ := h
  have hd : ∀ d k, dg τ d k = dg σ d k := fun d k => by unfold dg; exact hs _ (by omega)
  have hg : ∀ s k, sg τ s k = sg σ s k := fun s k => by unfold sg; exact hs _ (by omega)
  refine ⟨a1, by rw [h2]; exact a2, by rw [h0]; exact a3, by rw [h1]; exact a4, h6, h7, fun d hd9 => ?_, fun s hs9 => ?_, fun i hi hi2 => by rw [hs i hi]; exact a9 i hi hi2⟩
  · have q := a7 d (by omega)
    unfold wfD at q ⊢
    simp only [hd, h2]
    exact q
  · have q := a8 s (by omega)
    unfold wfS at q ⊢
    simp only [hg, hd, h2, h0]
    exact q
def closeR (σ : Nat → Nat) (a b : Int32) (on : Bool) : Nat → Nat := if fClose a b = 0 then clS σ (sbt a.toNatClampNeg b.toNatClampNeg 17) on else σ
def closeA (σ : Nat → Nat) (a b : Int32) (on : Bool) : Nat := if fClose a b = 0 then ct (cmk (closeR σ a b on)).testBit 24 else NN2
theorem fClose_0 {a b : Int32} (h : fClose a b = 0) : ∃ a9 b9 : Nat, a = nI a9 ∧ b = nI b9 ∧ a9 < 12 ∧ b9 < 12 ∧ sbt a9 b9 17 < 17 := by
  unfold fClose at h
  by_cases h1 : (inR a (nI 0) (nI 11) && inR b (nI 0) (nI 11)) = true
  · rw [if_pos h1] at h
    simp only [Bool.and_eq_true] at h1
    obtain ⟨a9, _, h2, rfl⟩ := inR_ex (by decide) (by decide) h1.1
    obtain ⟨b9, _, h3, rfl⟩ := inR_ex (by decide) (by decide) h1.2
    rw [nI_clamp (by omega), nI_clamp (by omega)] at h
    refine ⟨a9, b9, rfl, rfl, by omega, by omega, ?_⟩
    rcases sbt_stp a9 (by omega) b9 (by omega) with e | e
    · rw [if_pos e.2] at h; omega
    · exact e.2.1
  · rw [if_neg h1] at h
    omega
theorem clS_hi {σ : Nat → Nat} {k i : Nat} {on : Bool} (hk : k < 17) (h : i < 16 ∨ 40 ≤ i) : clS σ k on i = σ i := by
  have q := spl_ok k hk
  exact up_n (by omega)
/-- the numbers of the board -/
def nbd (σ : Nat → Nat) (w : Nat) : Nat := if w = 0 then σ 0 else if w = 1 then ct (msg σ) (σ 0) else if w = 2 then σ 1 else if w = 3 then σ 2 else if w = 4 then σ 3 else if w = 5 then σ 4 else if w = 6 then σ 5 else if w = 7 then sm (fun d => if msg σ d then dg σ d 4 else 0) (σ 0) else if w = 8 then ct (frd σ) (σ 1) else if w = 9 then ct (mng σ NN) (σ 1) else ct (cmk σ).testBit 24
def ndg (σ : Nat → Nat) (d w : Nat) : Nat := if w = 5 then (if msg σ d then 1 else 0) else if w = 6 then ct (mng σ d) (σ 1) else if w = 7 then ct (hon σ d) (σ 1) else if w < 5 then dg σ d w else dg σ d (w - 3)
def nsg (σ : Nat → Nat) (s w : Nat) : Nat := if w < 6 then sg σ s w else if w = 6 then (if sg σ s 5 = NN then NN else unl σ (sg σ s 5) (sg σ s 3)) else if w = 7 then (if sg σ s 5 = NN then NN else if tru σ s then 1 else 0) else (if frd σ s then 1 else 0)
theorem n1_0 : ¬ nI 1 = 0 := by decide
theorem n0_1 : ¬ (0 : Int32) = nI 1 := by decide
