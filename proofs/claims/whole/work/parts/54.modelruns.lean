/-! THE REFERENCE: scripts and simulations. -/
theorem inL_u {sc : Int64} {i : Nat} (hi : i ≤ 3) : inL sc (0 : Int64) (uI i - (1 : Int64)) = (!decide (sc < 0) && decide (sc < uI i)) := by
  have h1 := p6_lt hi
  have h2 := p6_pos i
  have e : (uI i - (1 : Int64)).toInt = (1000000 ^ i : Nat) - 1 := by
    show (lN (1000000 ^ i) - lN 1).toInt = _
    rw [lN_sub h2, pk_lT (by omega)]
    omega
  have e2 : (uI i - (1 : Int64) < sc) ↔ ¬ sc < uI i := by
    show (uI i - (1 : Int64) < sc) ↔ ¬ sc < lN (1000000 ^ i)
    rw [Int64.lt_iff_toInt_lt, Int64.lt_iff_toInt_lt, e, pk_lT h1]
    omega
  unfold inL
  rw [decide_eq_decide.mpr e2, decide_not, Bool.not_not]
theorem fRun_0 {vn : Int32} {sc : Int64} (h : fRun vn sc = 0) : ∃ n9, 1 ≤ n9 ∧ n9 ≤ 3 ∧ vn = nI n9 ∧ ¬ sc < 0 := by
  unfold fRun at h
  by_cases q : inR vn (nI 1) (nI 3) = true
  · obtain ⟨n9, h1, h2, e⟩ := inR_ex (by decide) (by decide) q
    rw [if_pos q] at h
    refine ⟨n9, h1, h2, e, fun z => ?_⟩
    rw [decide_eq_true z, Bool.true_or, if_pos rfl] at h
    omega
  · rw [if_neg q] at h
    omega
theorem fRun_e {vn : Int32} {sc : Int64} {i n9 : Nat} (h : inR vn (nI 1) (nI 3) = true) (e : vn = nI n9) (hn : n9 ≤ 3) (hi : i = n9) : fRun vn sc = if (!decide (sc < 0) && decide (sc < uI i)) = true then 0 else 2 := by
  unfold fRun
  rw [if_pos h, e, nI_clamp (by omega), hi]
  cases decide (sc < 0) <;> cases decide (sc < uI n9) <;> rfl
theorem fSim_0 {vm : Int32} (h : fSim vm = 0) : ∃ m9, 1 ≤ m9 ∧ m9 ≤ 60 ∧ vm = nI m9 := by
  unfold fSim at h
  by_cases q : inR vm (nI 1) (nI 60) = true
  · exact inR_ex (by decide) (by decide) q
  · rw [if_neg q] at h
    omega

set_option maxHeartbeats 4000000 in
set_option maxRecDepth 100000 in
theorem c_X8_runScript (l : Launch) (g : va_G) (cy : Nat → ClassId) (ma : Nat → Nat) (sz : Nat) (bd : Nat) (q : Mc) (σ : Nat → Nat) (Hh : Nat → Nat → Nat) (n : Nat) (K : Nat → Nat → Nat) (fl : Nat → Bool) (tx : Nat → Nat) (ln : Nat) (vn : Int32) (sc : Int64) (hI : mI bd q σ Hh n K fl tx ln) (hbd : bd + 297 ≤ 100000) : Met l yX8_runScript (Cond.code yX8_runScript cX8_runScript 8 (some .int) :: wsL_law) ({ frames := 7, cells := 0, slots := 0, locals := 179 } : Room) (va_Pc [.ref (ma 0), .int vn, .long sc] (pr g cy (mQ cy ma q σ n fl tx ln) sz)) (wr_Q (fun _ : Mc => (some (.int (nI (if fRun vn sc = 0 then rnI sc vn.toNatClampNeg vn.toNatClampNeg σ else 0))))) (fun q9 : Mc => q9.2.2.2.2.2.2.2 = rkm 0 1 0 (fRun vn sc) ∧ mI bd q9 σ Hh n K fl tx ln) (fun q9 : Mc => mQ cy ma q9 σ n fl tx ln) g (va_A (mQ cy ma q σ n fl tx ln) sz)) 0 0 (va_A (mQ cy ma q σ n fl tx ln) sz) := by
  obtain ⟨tr, dy, kp, wy, hp, sp, ou, rf⟩ := q
  obtain ⟨hwf, hn14, hdy, hkp, htx, hln⟩ := hI
  have hdy : ∀ k, k < n → ∀ j, j < 248 → dy (248 * k + j) = Hh k j := hdy
  have hkp : ∀ k, k < 2 → fl k = true → ∀ j, j < 248 → kp (248 * k + j) = K k j := hkp
  refine mt_of (cc := cX8_runScript) (maxL := 8) (ret := (some .int)) (by decide +kernel) (Nat.le_of_ble_eq_true rfl) ?_
  intro pX eX s mX below meth cX ls A hx hb hr hml hown hts hlk hin hsz hAe hA hP hD hK hX hl
  subst hsz
  rw [← hAe]
  clear hAe
  have hP : va_P g vwCl [(ma 0, .inr (6, [.int (nI rf), .ref (ma 1), .int (nI ln), .ref (ma 2), .ref (ma 3), .ref (ma 4), .int (nI n), .ref (ma 5), .ref (ma 6), .ref (ma 7), .ref (ma 8), .int (nI sp), .int (nI ou)])), aI cy (ma 1) 120 (mS tx), aI cy (ma 2) 248 (mS σ), aI cy (ma 3) 248 (mS tr), aI cy (ma 4) 3472 (mS dy), aI cy (ma 5) 496 (mS kp), aZ cy (ma 6) 2 (fun j => bI (fl j)), aI cy (ma 7) 144 (mS wy), aI cy (ma 8) 8 (mS hp)] s.heap := hP
  have hD : va_D A [(ma 0, .inr (6, [.int (nI rf), .ref (ma 1), .int (nI ln), .ref (ma 2), .ref (ma 3), .ref (ma 4), .int (nI n), .ref (ma 5), .ref (ma 6), .ref (ma 7), .ref (ma 8), .int (nI sp), .int (nI ou)])), aI cy (ma 1) 120 (mS tx), aI cy (ma 2) 248 (mS σ), aI cy (ma 3) 248 (mS tr), aI cy (ma 4) 3472 (mS dy), aI cy (ma 5) 496 (mS kp), aZ cy (ma 6) 2 (fun j => bI (fl j)), aI cy (ma 7) 144 (mS wy), aI cy (ma 8) 8 (mS hp)] := hD
  have hl : lv_has ls 8 [(0, .ref (ma 0)), (1, .int vn), (2, .long sc)] := hl
  have hS : va_S A s.heap s.heap [] := va_S.rf
  have hn0 := hwf.n0
  have hn1 := hwf.n1
  have hh2 := hwf.h2
  have hfr : fRun vn sc = 0 ∨ 0 < rkm 0 1 0 (fRun vn sc) := by unfold fRun rkm; (repeat' split) <;> omega
  have hfl9 : rkm 0 1 0 (fRun vn sc) < 10 := by unfold rkm; (repeat' split) <;> omega
  refine lv_lconst (v := 1) hx hb dX8_runScript_0 rfl ?_
  refine lv_lstore (lv' := [(4, .long (1 : Int64)), (0, .ref (ma 0)), (1, .int vn), (2, .long sc)]) hx hb dX8_runScript_1 hl (by decide) rfl (fun ls hl => ?_)
  refine lv_iconst (v := (nI 0)) hx hb dX8_runScript_3 (by decide) ?_
  refine lv_istore (lv' := [(6, .int (nI 0)), (4, .long (1 : Int64)), (0, .ref (ma 0)), (1, .int vn), (2, .long sc)]) hx hb dX8_runScript_4 hl (by decide) rfl (fun ls hl => ?_)
  have hl : lv_has ls 8 [(6, .int (nI 0)), (4, .long (uI 0)), (0, .ref (ma 0)), (1, .int vn), (2, .long sc)] := by rw [← show (1 : Int64) = (uI 0) from (by decide)]; exact hl
  refine lp_rd (σ := (Nat)) (fun x9 ls9 => lv_has ls9 8 [(0, .ref (ma 0)), (1, .int vn), (2, .long sc), (4, .long (uI x9)), (6, .int (nI x9))] ∧ (x9 ≤ 3) ∧ (∀ j, j < x9 → nI j < vn)) (fun x9 => 3 - x9) (0) ⟨lv_sub hl [2, 3, 4, 1, 0] rfl, (by omega), (fun j hj => absurd hj (Nat.not_lt_zero _))⟩ ?_
  rintro i ls ⟨hl, hi, hiv⟩ ih6
  try dsimp only at hl hi hiv ih6
  refine lv_iload hx hb dX8_runScript_6 (lv_at hl 4 rfl) ?_
  refine lv_iload_n hx hb dX8_runScript_8 rfl (lv_at hl 1 rfl) ?_
  refine lv_icmp_ge (tgt := 32) hx hb dX8_runScript_9 (by decide) (fun c_9 => ?_) (fun c_9 => ?_)
  · skip
    have hexit : ∀ n9, vn = nI n9 → 1 ≤ n9 → n9 ≤ 3 → i = n9 := by
      intro n9 e h1 h2
      subst e
      have k1 : i ≤ n9 := by
        rcases Nat.eq_zero_or_pos i with z | z
        · omega
        · have := (nI_ltI (by omega) (by omega)).mp (hiv (i - 1) (by omega)); omega
      have k2 := (nI_leI (by omega) (by omega)).mp c_9
      omega
    refine lv_aload_n hx hb dX8_runScript_32 rfl (lv_at hl 0 rfl) ?_
    refine jn_i (pcj := 62) (ls := ls) (st := [.ref (ma 0)]) (fun v9 => v9 = (nI (rkm 0 1 0 (fRun vn sc)))) ?_ (fun jn62 => ?_)
    · intro v9 hv9
      subst hv9
      refine wr_call (wc := [(ma 0, .inr (6, [.int (nI rf), .ref (ma 1), .int (nI ln), .ref (ma 2), .ref (ma 3), .ref (ma 4), .int (nI n), .ref (ma 5), .ref (ma 6), .ref (ma 7), .ref (ma 8), .int (nI sp), .int (nI ou)]))]) (va_runV (As := [.int (nI (rkm 0 1 0 (fRun vn sc)))]) (rest := []) ⟨hx, hb, hml, hown, hts⟩ (c_X8_refused l g cy (ma 0) (ma 1) (ma 2) (ma 3) (ma 4) (ma 5) (ma 6) (ma 7) (ma 8) s.heap.size rf ln n sp ou (rkm 0 1 0 (fRun vn sc)) (by omega)) ⟨(cB 1 hts wd7_21 wd1_5 wd7_18 rfl rfl (by decide +kernel) ⟨Nat.le_of_ble_eq_true rfl, Nat.le_of_ble_eq_true rfl⟩), hts _ wd7_19, hts _ wd7_20⟩ (pv hK hP hD hS hA hX [0] rfl rfl 6 0 rfl rfl) rfl rfl hl.1 rfl (lv_room (Nat.le_of_ble_eq_true rfl)) dX8_runScript_62 ⟨Nat.zero_le _, Nat.zero_le _⟩) hP hD hS hA [0] rfl rfl (fun _ => (rfl : ([ma 0] : List Nat) = [ma 0])) ?_
      rintro _u9 H locs - hP hD hS
      have hP : va_P g vwCl [(ma 0, .inr (6, [.int (nI (rkm 0 1 0 (fRun vn sc))), .ref (ma 1), .int (nI ln), .ref (ma 2), .ref (ma 3), .ref (ma 4), .int (nI n), .ref (ma 5), .ref (ma 6), .ref (ma 7), .ref (ma 8), .int (nI sp), .int (nI ou)])), aI cy (ma 1) 120 (mS tx), aI cy (ma 2) 248 (mS σ), aI cy (ma 3) 248 (mS tr), aI cy (ma 4) 3472 (mS dy), aI cy (ma 5) 496 (mS kp), aZ cy (ma 6) 2 (fun j => bI (fl j)), aI cy (ma 7) 144 (mS wy), aI cy (ma 8) 8 (mS hp)] H := hP
      have hD : va_D A [(ma 0, .inr (6, [.int (nI (rkm 0 1 0 (fRun vn sc))), .ref (ma 1), .int (nI ln), .ref (ma 2), .ref (ma 3), .ref (ma 4), .int (nI n), .ref (ma 5), .ref (ma 6), .ref (ma 7), .ref (ma 8), .int (nI sp), .int (nI ou)])), aI cy (ma 1) 120 (mS tx), aI cy (ma 2) 248 (mS σ), aI cy (ma 3) 248 (mS tr), aI cy (ma 4) 3472 (mS dy), aI cy (ma 5) 496 (mS kp), aZ cy (ma 6) 2 (fun j => bI (fl j)), aI cy (ma 7) 144 (mS wy), aI cy (ma 8) 8 (mS hp)] := hD
      show W _ _ _ _ _ _ _ _ _ _ _ _ _ _ _ (F0 mX 65 ls [.int (bI (decide (0 < (rkm 0 1 0 (fRun vn sc)))))])
      refine lv_if_eq (tgt := 70) hx hb dX8_runScript_65 (by decide) (fun c_65 => ?_) (fun c_65 => ?_)
      · have c_65 := (bI_eq0.mp c_65)
        have c_65 : fRun vn sc = 0 := hfr.resolve_right (of_decide_eq_false c_65)
        obtain ⟨n9, hn91, hn93, rfl, hs0⟩ := fRun_0 c_65
        refine lv_aload_n hx hb dX8_runScript_70 rfl (lv_at hl 0 rfl) ?_
        have hl : lv_has ls 8 [(0, .ref (ma 0)), (1, .int (nI n9)), (2, .long sc), (4, .long (uI n9)), (6, .int (nI i))] := by rw [← show (uI i) = (uI n9) from (by rw [show i = n9 from hexit n9 rfl hn91 hn93])]; exact hl
        refine va_get (D := g) (ci := 6) (v := .ref (ma 2)) (C := RX8) (T := TX8) (N := 13) hx hb hts bgX8 hown hK hP 0 rfl rfl 3 (by decide) (hts _ wd5_21) (fun _ h9 => h9) rfl dX8_runScript_71 ?_
        refine lv_iconst (v := (nI 0)) hx hb dX8_runScript_74 (by decide) ?_
        refine lv_aload_n hx hb dX8_runScript_75 rfl (lv_at hl 0 rfl) ?_
        refine va_get (D := g) (ci := 6) (v := .ref (ma 3)) (C := RX8) (T := TX8) (N := 13) hx hb hts bgX8 hown hK hP 0 rfl rfl 4 (by decide) (hts _ wd5_22) (fun _ h9 => h9) rfl dX8_runScript_76 ?_
        refine lv_iconst (v := (nI 0)) hx hb dX8_runScript_79 (by decide) ?_
        refine wr_call (wc := [aI cy (ma 2) 248 (mS σ), aI cy (ma 3) 248 (mS tr)]) (va_runS (As := [.ref (ma 2), .int (nI 0), .ref (ma 3), .int (nI 0)]) (rest := []) ⟨hx, hb, hml, hown, hts⟩ (c_X8_copyState l g cy (ma 2) (ma 3) H.size 248 248 σ tr 0 0 (by omega) (by omega) (by omega) (by omega)) ⟨(cB 4 hts wd23_3 wd1_5 wd23_1 rfl rfl (by decide +kernel) ⟨Nat.le_of_ble_eq_true rfl, Nat.le_of_ble_eq_true rfl⟩), hts _ wd23_2⟩ (ps hK hP hD hS hA hX [2, 3] rfl rfl) rfl rfl hl.1 rfl (lv_room (Nat.le_of_ble_eq_true rfl)) dX8_runScript_80 ⟨Nat.zero_le _, Nat.zero_le _⟩) hP hD hS hA [2, 3] rfl rfl (fun _ => (rfl : ([ma 2, ma 3] : List Nat) = [ma 2, ma 3])) ?_
        rintro _u9 H locs - hP hD hS
        have hP : va_P g vwCl [(ma 0, .inr (6, [.int (nI (rkm 0 1 0 (fRun (nI n9) sc))), .ref (ma 1), .int (nI ln), .ref (ma 2), .ref (ma 3), .ref (ma 4), .int (nI n), .ref (ma 5), .ref (ma 6), .ref (ma 7), .ref (ma 8), .int (nI sp), .int (nI ou)])), aI cy (ma 1) 120 (mS tx), aI cy (ma 2) 248 (mS σ), aI cy (ma 3) 248 (mS (cpS σ tr 0 0 248)), aI cy (ma 4) 3472 (mS dy), aI cy (ma 5) 496 (mS kp), aZ cy (ma 6) 2 (fun j => bI (fl j)), aI cy (ma 7) 144 (mS wy), aI cy (ma 8) 8 (mS hp)] H := hP
        have hD : va_D A [(ma 0, .inr (6, [.int (nI (rkm 0 1 0 (fRun (nI n9) sc))), .ref (ma 1), .int (nI ln), .ref (ma 2), .ref (ma 3), .ref (ma 4), .int (nI n), .ref (ma 5), .ref (ma 6), .ref (ma 7), .ref (ma 8), .int (nI sp), .int (nI ou)])), aI cy (ma 1) 120 (mS tx), aI cy (ma 2) 248 (mS σ), aI cy (ma 3) 248 (mS (cpS σ tr 0 0 248)), aI cy (ma 4) 3472 (mS dy), aI cy (ma 5) 496 (mS kp), aZ cy (ma 6) 2 (fun j => bI (fl j)), aI cy (ma 7) 144 (mS wy), aI cy (ma 8) 8 (mS hp)] := hD
        show W _ _ _ _ _ _ _ _ _ _ _ _ _ _ _ (F0 mX 83 ls [])
        obtain ⟨hP, hD⟩ := arr_c (mS σ) hP hD 3 rfl (fun j hj => cp_00 hj)
        have hP : va_P g vwCl [(ma 0, .inr (6, [.int (nI (rkm 0 1 0 (fRun (nI n9) sc))), .ref (ma 1), .int (nI ln), .ref (ma 2), .ref (ma 3), .ref (ma 4), .int (nI n), .ref (ma 5), .ref (ma 6), .ref (ma 7), .ref (ma 8), .int (nI sp), .int (nI ou)])), aI cy (ma 1) 120 (mS tx), aI cy (ma 2) 248 (mS σ), aI cy (ma 3) 248 (mS σ), aI cy (ma 4) 3472 (mS dy), aI cy (ma 5) 496 (mS kp), aZ cy (ma 6) 2 (fun j => bI (fl j)), aI cy (ma 7) 144 (mS wy), aI cy (ma 8) 8 (mS hp)] H := hP
        have hD : va_D A [(ma 0, .inr (6, [.int (nI (rkm 0 1 0 (fRun (nI n9) sc))), .ref (ma 1), .int (nI ln), .ref (ma 2), .ref (ma 3), .ref (ma 4), .int (nI n), .ref (ma 5), .ref (ma 6), .ref (ma 7), .ref (ma 8), .int (nI sp), .int (nI ou)])), aI cy (ma 1) 120 (mS tx), aI cy (ma 2) 248 (mS σ), aI cy (ma 3) 248 (mS σ), aI cy (ma 4) 3472 (mS dy), aI cy (ma 5) 496 (mS kp), aZ cy (ma 6) 2 (fun j => bI (fl j)), aI cy (ma 7) 144 (mS wy), aI cy (ma 8) 8 (mS hp)] := hD
        refine lv_iconst (v := (nI 0)) hx hb dX8_runScript_83 (by decide) ?_
        refine lv_istore (lv' := [(6, .int (nI 0)), (0, .ref (ma 0)), (1, .int (nI n9)), (2, .long sc), (4, .long (uI n9))]) hx hb dX8_runScript_84 hl (by decide) rfl (fun ls hl => ?_)
        have hl : lv_has ls 8 [(6, .int (nI (n9 - n9))), (0, .ref (ma 0)), (1, .int (nI n9)), (2, .long sc), (4, .long (uI n9))] := by rw [← show (nI 0) = (nI (n9 - n9)) from (congrArg nI (Nat.sub_self _).symm)]; exact hl
        refine lp_rule (σ := (Nat) × (Nat → Nat) × (Nat → Nat) × (Nat → Nat)) (fun x9 H9 locs9 ls9 => va_P g vwCl [(ma 0, .inr (6, [.int (nI (rkm 0 1 0 (fRun (nI n9) sc))), .ref (ma 1), .int (nI ln), .ref (ma 2), .ref (ma 3), .ref (ma 4), .int (nI n), .ref (ma 5), .ref (ma 6), .ref (ma 7), .ref (ma 8), .int (nI sp), .int (nI ou)])), aI cy (ma 1) 120 (mS tx), aI cy (ma 2) 248 (mS σ), aI cy (ma 3) 248 (mS x9.2.1), aI cy (ma 4) 3472 (mS dy), aI cy (ma 5) 496 (mS kp), aZ cy (ma 6) 2 (fun j => bI (fl j)), aI cy (ma 7) 144 (mS x9.2.2.1), aI cy (ma 8) 8 (mS x9.2.2.2)] H9 ∧ va_D A [(ma 0, .inr (6, [.int (nI (rkm 0 1 0 (fRun (nI n9) sc))), .ref (ma 1), .int (nI ln), .ref (ma 2), .ref (ma 3), .ref (ma 4), .int (nI n), .ref (ma 5), .ref (ma 6), .ref (ma 7), .ref (ma 8), .int (nI sp), .int (nI ou)])), aI cy (ma 1) 120 (mS tx), aI cy (ma 2) 248 (mS σ), aI cy (ma 3) 248 (mS x9.2.1), aI cy (ma 4) 3472 (mS dy), aI cy (ma 5) 496 (mS kp), aZ cy (ma 6) 2 (fun j => bI (fl j)), aI cy (ma 7) 144 (mS x9.2.2.1), aI cy (ma 8) 8 (mS x9.2.2.2)] ∧ va_S A s.heap H9 locs9 ∧ lv_has ls9 8 [(0, .ref (ma 0)), (1, .int (nI n9)), (2, .long sc), (4, .long (uI x9.1)), (6, .int (nI (n9 - x9.1)))] ∧ (x9.1 ≤ n9) ∧ (WF (bd + 99 * (n9 - x9.1)) x9.2.1) ∧ (rnI sc n9 x9.1 x9.2.1 = rnI sc n9 n9 σ)) (fun x9 => x9.1) (n9, σ, wy, hp) ⟨hP, hD, hS, lv_sub hl [1, 2, 3, 4, 0] rfl, (Nat.le_refl _), (WF_mono hwf (by dsimp only; omega) (by dsimp only; omega)), rfl⟩ ?_
        rintro ⟨k, τ, wy8, w98⟩ H locs ls ⟨hP, hD, hS, hl, hk, hwt, hrn⟩ ih86
        try dsimp only at hl hk hwt hrn hP hD ih86
        refine lv_iload hx hb dX8_runScript_86 (lv_at hl 4 rfl) ?_
        refine lv_iload_n hx hb dX8_runScript_88 rfl (lv_at hl 1 rfl) ?_
        refine lv_icmp_ge (tgt := 137) hx hb dX8_runScript_89 (by decide) (fun c_89 => ?_) (fun c_89 => ?_)
        · have c_89 := (nc_le (by omega) (by omega) c_89)
          refine lv_iconst (v := (nI NN)) hx hb dX8_runScript_137 (by decide) ?_
          have hk0 : k = 0 := by omega
          have hrv : rnI sc n9 n9 σ = NN := by rw [← hrn, hk0]; rfl
          exact wr_i (τ, dy, kp, wy8, w98, sp, ou, (rkm 0 1 0 (fRun (nI n9) sc))) (by rw [if_pos c_65, nI_clamp (by omega), hrv]) ⟨rfl, ⟨hwf, hn14, hdy, hkp, htx, hln⟩⟩ hP hS hx hb hr dX8_runScript_138 hlk
        · have c_89 := (nc_nle (by omega) (by omega) c_89)
          obtain ⟨k, rfl⟩ : ∃ k1, k = k1 + 1 := ⟨k - 1, by omega⟩
          have hg9 := grp_lt (sc := sc) (k := k)
          refine lv_lload hx hb dX8_runScript_92 (lv_at hl 3 rfl) ?_
          refine lv_ldc2 hx hb hown (hts _ wd39_7) dX8_runScript_94 ?_
          refine lv_ldiv hx hb dX8_runScript_97 (by decide) ?_
          refine tl (show ((uI (k + 1)) / (1000000 : Int64)) = (uI k) from (uI_d (by omega))) ?_
          refine lv_lstore (lv' := [(4, .long (uI k)), (0, .ref (ma 0)), (1, .int (nI n9)), (2, .long sc), (6, .int (nI (n9 - (k + 1))))]) hx hb dX8_runScript_98 hl (by decide) rfl (fun ls hl => ?_)
          refine lv_lload_n hx hb dX8_runScript_100 rfl (lv_at hl 3 rfl) ?_
          refine lv_lload hx hb dX8_runScript_101 (lv_at hl 0 rfl) ?_
          refine lv_ldiv hx hb dX8_runScript_103 (uI_ne (by omega)) ?_
          refine lv_ldc2 hx hb hown (hts _ wd39_7) dX8_runScript_104 ?_
          refine lv_lrem hx hb dX8_runScript_107 (by decide) ?_
          refine lv_l2i (v := ((sc / (uI k)) - (sc / (uI k)) / (1000000 : Int64) * (1000000 : Int64)).toInt32) hx hb dX8_runScript_108 rfl ?_
          refine ti (show (((sc / (uI k)) - (sc / (uI k)) / (1000000 : Int64) * (1000000 : Int64)).toInt32) = (nI (grp sc k)) from (grp_eq hs0 (by omega))) ?_
          refine lv_istore (lv' := [(7, .int (nI (grp sc k))), (4, .long (uI k)), (0, .ref (ma 0)), (1, .int (nI n9)), (2, .long sc), (6, .int (nI (n9 - (k + 1))))]) hx hb dX8_runScript_109 hl (by decide) rfl (fun ls hl => ?_)
          refine lv_aload_n hx hb dX8_runScript_111 rfl (lv_at hl 2 rfl) ?_
          refine lv_iload hx hb dX8_runScript_112 (lv_at hl 0 rfl) ?_
          refine lv_ldc hx hb hown (hts _ wd39_8) dX8_runScript_114 ?_
          refine ti (show (100000 : Int32) = nI 100000 from by decide) ?_
          refine lv_idiv hx hb dX8_runScript_116 (nI_ne0 (by omega) (by omega)) ?_
          refine ti (pk_div (a := (grp sc k)) (d := 100000) (by omega) (by omega) (by omega)) ?_
          refine lv_iload hx hb dX8_runScript_117 (lv_at hl 0 rfl) ?_
          refine lv_ldc hx hb hown (hts _ wd39_8) dX8_runScript_119 ?_
          refine ti (show (100000 : Int32) = nI 100000 from by decide) ?_
          refine lv_irem hx hb dX8_runScript_121 (nI_ne0 (by omega) (by omega)) ?_
          refine ti (pk_rem (a := (grp sc k)) (d := 100000) (by omega) (by omega) (by omega)) ?_
          refine wr_call (wc := [(ma 0, .inr (6, [.int (nI (rkm 0 1 0 (fRun (nI n9) sc))), .ref (ma 1), .int (nI ln), .ref (ma 2), .ref (ma 3), .ref (ma 4), .int (nI n), .ref (ma 5), .ref (ma 6), .ref (ma 7), .ref (ma 8), .int (nI sp), .int (nI ou)])), aI cy (ma 1) 120 (mS tx), aI cy (ma 2) 248 (mS σ), aI cy (ma 3) 248 (mS τ), aI cy (ma 4) 3472 (mS dy), aI cy (ma 5) 496 (mS kp), aZ cy (ma 6) 2 (fun j => bI (fl j)), aI cy (ma 7) 144 (mS wy8), aI cy (ma 8) 8 (mS w98)]) (va_runV (As := [.int (nI ((grp sc k) / 100000)), .int (nI ((grp sc k) % 100000))]) (rest := []) ⟨hx, hb, hml, hown, hts⟩ (c_X8_command l g cy  H.size ma τ dy kp wy8 w98 sp ou (rkm 0 1 0 (fRun (nI n9) sc)) σ n fl tx ln (bd + 99 * (n9 - (k + 1))) ((grp sc k) / 100000) ((grp sc k) % 100000) hwt (by omega) (by omega)) ⟨(cB 2 hts wd39_12 wd1_5 wd39_9 rfl rfl (by decide +kernel) ⟨Nat.le_of_ble_eq_true rfl, Nat.le_of_ble_eq_true rfl⟩), hts _ wd39_10, hts _ wd39_11⟩ (pv hK hP hD hS hA hX [0, 1, 2, 3, 4, 5, 6, 7, 8] rfl rfl 6 0 rfl rfl) rfl rfl hl.1 rfl (lv_room (Nat.le_of_ble_eq_true rfl)) dX8_runScript_122 ⟨Nat.zero_le _, Nat.zero_le _⟩) hP hD hS hA [0, 1, 2, 3, 4, 5, 6, 7, 8] rfl rfl (fun _ => (rfl : ([ma 0, ma 1, ma 2, ma 3, ma 4, ma 5, ma 6, ma 7, ma 8] : List Nat) = [ma 0, ma 1, ma 2, ma 3, ma 4, ma 5, ma 6, ma 7, ma 8])) ?_
          rintro ⟨s1_122, wy1_122, w91_122⟩ H locs ho_122 hP hD hS
          have hP : va_P g vwCl [(ma 0, .inr (6, [.int (nI (rkm 0 1 0 (fRun (nI n9) sc))), .ref (ma 1), .int (nI ln), .ref (ma 2), .ref (ma 3), .ref (ma 4), .int (nI n), .ref (ma 5), .ref (ma 6), .ref (ma 7), .ref (ma 8), .int (nI sp), .int (nI ou)])), aI cy (ma 1) 120 (mS tx), aI cy (ma 2) 248 (mS σ), aI cy (ma 3) 248 (mS s1_122), aI cy (ma 4) 3472 (mS dy), aI cy (ma 5) 496 (mS kp), aZ cy (ma 6) 2 (fun j => bI (fl j)), aI cy (ma 7) 144 (mS wy1_122), aI cy (ma 8) 8 (mS w91_122)] H := hP
          have hD : va_D A [(ma 0, .inr (6, [.int (nI (rkm 0 1 0 (fRun (nI n9) sc))), .ref (ma 1), .int (nI ln), .ref (ma 2), .ref (ma 3), .ref (ma 4), .int (nI n), .ref (ma 5), .ref (ma 6), .ref (ma 7), .ref (ma 8), .int (nI sp), .int (nI ou)])), aI cy (ma 1) 120 (mS tx), aI cy (ma 2) 248 (mS σ), aI cy (ma 3) 248 (mS s1_122), aI cy (ma 4) 3472 (mS dy), aI cy (ma 5) 496 (mS kp), aZ cy (ma 6) 2 (fun j => bI (fl j)), aI cy (ma 7) 144 (mS wy1_122), aI cy (ma 8) 8 (mS w91_122)] := hD
          have ho_122 : scB (100000 * ((grp sc k) / 100000) + ((grp sc k) % 100000)) τ = true → s1_122 = scS (100000 * ((grp sc k) / 100000) + ((grp sc k) % 100000)) τ := ho_122
          show W _ _ _ _ _ _ _ _ _ _ _ _ _ _ _ (F0 mX 125 ls [.int (bI (scB (100000 * ((grp sc k) / 100000) + ((grp sc k) % 100000)) τ))])
          refine ti (show (bI (scB (100000 * ((grp sc k) / 100000) + ((grp sc k) % 100000)) τ)) = (bI (scB (grp sc k) τ)) from (congrArg bI (by rw [Nat.div_add_mod]))) ?_
          have ho9 : scB (grp sc k) τ = true → s1_122 = scS (grp sc k) τ := by have h9 := ho_122; rw [Nat.div_add_mod] at h9; exact h9
          refine lv_if_ne (tgt := 131) hx hb dX8_runScript_125 (by decide) (fun c_125 => ?_) (fun c_125 => ?_)
          · have c_125 := (bI_ne0.mp c_125)
            refine lv_iinc (v := (nI ((n9 - (k + 1)) + 1))) (lv' := [(6, .int (nI ((n9 - (k + 1)) + 1))), (7, .int (nI (grp sc k))), (4, .long (uI k)), (0, .ref (ma 0)), (1, .int (nI n9)), (2, .long sc)]) hx hb dX8_runScript_131 hl (k := 5) rfl (nI_add (n9 - (k + 1)) 1) (by decide) rfl (fun ls hl => ?_)
            have hl : lv_has ls 8 [(6, .int (nI (n9 - k))), (7, .int (nI (grp sc k))), (4, .long (uI k)), (0, .ref (ma 0)), (1, .int (nI n9)), (2, .long sc)] := by rw [← show (nI ((n9 - (k + 1)) + 1)) = (nI (n9 - k)) from (congrArg nI (by omega))]; exact hl
            refine lv_goto (tgt := 86) hx hb dX8_runScript_134 (by decide) ?_
            exact ih86 (k, s1_122, wy1_122, w91_122) H locs ls ⟨hP, hD, hS, lv_sub hl [3, 4, 5, 2, 0] rfl, (by (try dsimp only); omega), (by (try dsimp only); rw [ho9 c_125]; exact WF_mono (WF_scS hwt (by omega)) (by omega) (by omega)), (by (try dsimp only); rw [ho9 c_125, ← hrn]; exact (if_pos c_125).symm)⟩ (by first | omega | (dsimp only; omega))
          · have c_125 := (bI_eq0.mp c_125)
            refine lv_iload hx hb dX8_runScript_128 (lv_at hl 5 rfl) ?_
            have hrv : rnI sc n9 n9 σ = n9 - (k + 1) := by rw [← hrn]; exact if_neg (by rw [c_125]; decide)
            exact wr_i (s1_122, dy, kp, wy1_122, w91_122, sp, ou, rkm 0 1 0 (fRun (nI n9) sc)) (by rw [if_pos c_65, nI_clamp (by omega), hrv]) ⟨rfl, ⟨hwf, hn14, hdy, hkp, htx, hln⟩⟩ hP hS hx hb hr dX8_runScript_130 hlk
      · have c_65 := (bI_ne0.mp c_65)
        have c_65 : ¬ fRun vn sc = 0 := fun e => by rw [e] at c_65; exact absurd c_65 (by decide)
        refine lv_iconst (v := (nI 0)) hx hb dX8_runScript_68 (by decide) ?_
        exact wr_i (tr, dy, kp, wy, hp, sp, ou, rkm 0 1 0 (fRun vn sc)) (by rw [if_neg c_65]) ⟨rfl, (by skip; exact ⟨hwf, hn14, hdy, hkp, htx, hln⟩)⟩ (by skip; exact hP) hS hx hb hr dX8_runScript_69 hlk
    · skip
      refine lv_iload_n hx hb dX8_runScript_33 rfl (lv_at hl 1 rfl) ?_
      refine lv_i2l (v := vn.toInt64) hx hb dX8_runScript_34 rfl ?_
      refine lv_lconst (v := 1) hx hb dX8_runScript_35 rfl ?_
      refine lv_ldc2 hx hb hown (hts _ wd30_16) dX8_runScript_36 ?_
      refine rd_call (va_runS (As := [.long vn.toInt64, .long (1 : Int64), .long (3 : Int64)]) (rest := [.ref (ma 0)]) ⟨hx, hb, hml, hown, hts⟩ (c_X8_in l vn.toInt64 (1 : Int64) (3 : Int64) ) ⟨(cB 3 hts wd7_17 wd1_5 wd7_15 rfl rfl (by decide +kernel) ⟨Nat.le_of_ble_eq_true rfl, Nat.le_of_ble_eq_true rfl⟩), hts _ wd7_16⟩ p0 rfl rfl hl.1 rfl (lv_room (Nat.le_of_ble_eq_true rfl)) dX8_runScript_39 ⟨Nat.zero_le _, Nat.zero_le _⟩) ?_
      show W _ _ _ _ _ _ _ _ _ _ _ _ _ _ _ (F0 mX 42 ls [.int (bI (inL vn.toInt64 (1 : Int64) (3 : Int64))), .ref (ma 0)])
      refine ti (show (bI (inL vn.toInt64 (1 : Int64) (3 : Int64))) = (bI (inR vn (nI 1) (nI 3))) from (congrArg bI (inL_c (a := 1) (b := 3) (by decide) (by decide)))) ?_
      refine lv_if_eq (tgt := 61) hx hb dX8_runScript_42 (by decide) (fun c_42 => ?_) (fun c_42 => ?_)
      · have c_42 := (bI_eq0.mp c_42)
        refine lv_iconst (v := (nI 1)) hx hb dX8_runScript_61 (by decide) ?_
        exact jn62 _ (congrArg nI (by simp [rkm, fRun, c_42]))
      · have c_42 := (bI_ne0.mp c_42)
        obtain ⟨n9, hn91, hn93, hvn⟩ := inR_ex (by decide) (by decide) c_42
        have hin : i = n9 := hexit n9 hvn hn91 hn93
        have hfr9 := fRun_e (sc := sc) c_42 hvn hn93 hin
        refine lv_lload_n hx hb dX8_runScript_45 rfl (lv_at hl 2 rfl) ?_
        refine lv_lconst (v := 0) hx hb dX8_runScript_46 rfl ?_
        refine lv_lload hx hb dX8_runScript_47 (lv_at hl 3 rfl) ?_
        refine lv_lconst (v := 1) hx hb dX8_runScript_49 rfl ?_
        refine lv_lsub hx hb dX8_runScript_50 ?_
        refine rd_call (va_runS (As := [.long sc, .long (0 : Int64), .long ((uI i) - (1 : Int64))]) (rest := [.ref (ma 0)]) ⟨hx, hb, hml, hown, hts⟩ (c_X8_in l sc (0 : Int64) ((uI i) - (1 : Int64)) ) ⟨(cB 3 hts wd7_17 wd1_5 wd7_15 rfl rfl (by decide +kernel) ⟨Nat.le_of_ble_eq_true rfl, Nat.le_of_ble_eq_true rfl⟩), hts _ wd7_16⟩ p0 rfl rfl hl.1 rfl (lv_room (Nat.le_of_ble_eq_true rfl)) dX8_runScript_51 ⟨Nat.zero_le _, Nat.zero_le _⟩) ?_
        show W _ _ _ _ _ _ _ _ _ _ _ _ _ _ _ (F0 mX 54 ls [.int (bI (inL sc (0 : Int64) ((uI i) - (1 : Int64)))), .ref (ma 0)])
        refine ti (show (bI (inL sc (0 : Int64) ((uI i) - (1 : Int64)))) = (bI (!decide (sc < 0) && decide (sc < uI i))) from (congrArg bI (inL_u (by omega)))) ?_
        refine lv_if_eq (tgt := 61) hx hb dX8_runScript_54 (by decide) (fun c_54 => ?_) (fun c_54 => ?_)
        · have c_54 := (bI_eq0.mp c_54)
          refine lv_iconst (v := (nI 1)) hx hb dX8_runScript_61 (by decide) ?_
          exact jn62 _ (congrArg nI (by rw [hfr9, c_54]; rfl))
        · have c_54 := (bI_ne0.mp c_54)
          refine lv_iconst (v := (nI 0)) hx hb dX8_runScript_57 (by decide) ?_
          refine lv_goto (tgt := 62) hx hb dX8_runScript_58 (by decide) ?_
          exact jn62 _ (congrArg nI (by rw [hfr9, c_54]; rfl))
  · skip
    refine lv_iload hx hb dX8_runScript_12 (lv_at hl 4 rfl) ?_
    refine lv_iconst (v := (nI 3)) hx hb dX8_runScript_14 (by decide) ?_
    refine lv_icmp_ge (tgt := 32) hx hb dX8_runScript_15 (by decide) (fun c_15 => ?_) (fun c_15 => ?_)
    · have c_15 := (nc_le (by omega) (by omega) c_15)
      have hexit : ∀ n9, vn = nI n9 → 1 ≤ n9 → n9 ≤ 3 → i = n9 := by
        intro n9 e h1 h2
        subst e
        have k1 : i ≤ n9 := by
          rcases Nat.eq_zero_or_pos i with z | z
          · omega
          · have := (nI_ltI (by omega) (by omega)).mp (hiv (i - 1) (by omega)); omega
        omega
      refine lv_aload_n hx hb dX8_runScript_32 rfl (lv_at hl 0 rfl) ?_
      refine jn_i (pcj := 62) (ls := ls) (st := [.ref (ma 0)]) (fun v9 => v9 = (nI (rkm 0 1 0 (fRun vn sc)))) ?_ (fun jn62 => ?_)
      · intro v9 hv9
        subst hv9
        refine wr_call (wc := [(ma 0, .inr (6, [.int (nI rf), .ref (ma 1), .int (nI ln), .ref (ma 2), .ref (ma 3), .ref (ma 4), .int (nI n), .ref (ma 5), .ref (ma 6), .ref (ma 7), .ref (ma 8), .int (nI sp), .int (nI ou)]))]) (va_runV (As := [.int (nI (rkm 0 1 0 (fRun vn sc)))]) (rest := []) ⟨hx, hb, hml, hown, hts⟩ (c_X8_refused l g cy (ma 0) (ma 1) (ma 2) (ma 3) (ma 4) (ma 5) (ma 6) (ma 7) (ma 8) s.heap.size rf ln n sp ou (rkm 0 1 0 (fRun vn sc)) (by omega)) ⟨(cB 1 hts wd7_21 wd1_5 wd7_18 rfl rfl (by decide +kernel) ⟨Nat.le_of_ble_eq_true rfl, Nat.le_of_ble_eq_true rfl⟩), hts _ wd7_19, hts _ wd7_20⟩ (pv hK hP hD hS hA hX [0] rfl rfl 6 0 rfl rfl) rfl rfl hl.1 rfl (lv_room (Nat.le_of_ble_eq_true rfl)) dX8_runScript_62 ⟨Nat.zero_le _, Nat.zero_le _⟩) hP hD hS hA [0] rfl rfl (fun _ => (rfl : ([ma 0] : List Nat) = [ma 0])) ?_
        rintro _u9 H locs - hP hD hS
        have hP : va_P g vwCl [(ma 0, .inr (6, [.int (nI (rkm 0 1 0 (fRun vn sc))), .ref (ma 1), .int (nI ln), .ref (ma 2), .ref (ma 3), .ref (ma 4), .int (nI n), .ref (ma 5), .ref (ma 6), .ref (ma 7), .ref (ma 8), .int (nI sp), .int (nI ou)])), aI cy (ma 1) 120 (mS tx), aI cy (ma 2) 248 (mS σ), aI cy (ma 3) 248 (mS tr), aI cy (ma 4) 3472 (mS dy), aI cy (ma 5) 496 (mS kp), aZ cy (ma 6) 2 (fun j => bI (fl j)), aI cy (ma 7) 144 (mS wy), aI cy (ma 8) 8 (mS hp)] H := hP
        have hD : va_D A [(ma 0, .inr (6, [.int (nI (rkm 0 1 0 (fRun vn sc))), .ref (ma 1), .int (nI ln), .ref (ma 2), .ref (ma 3), .ref (ma 4), .int (nI n), .ref (ma 5), .ref (ma 6), .ref (ma 7), .ref (ma 8), .int (nI sp), .int (nI ou)])), aI cy (ma 1) 120 (mS tx), aI cy (ma 2) 248 (mS σ), aI cy (ma 3) 248 (mS tr), aI cy (ma 4) 3472 (mS dy), aI cy (ma 5) 496 (mS kp), aZ cy (ma 6) 2 (fun j => bI (fl j)), aI cy (ma 7) 144 (mS wy), aI cy (ma 8) 8 (mS hp)] := hD
        show W _ _ _ _ _ _ _ _ _ _ _ _ _ _ _ (F0 mX 65 ls [.int (bI (decide (0 < (rkm 0 1 0 (fRun vn sc)))))])
        refine lv_if_eq (tgt := 70) hx hb dX8_runScript_65 (by decide) (fun c_65 => ?_) (fun c_65 => ?_)
        · have c_65 := (bI_eq0.mp c_65)
          have c_65 : fRun vn sc = 0 := hfr.resolve_right (of_decide_eq_false c_65)
          obtain ⟨n9, hn91, hn93, rfl, hs0⟩ := fRun_0 c_65
          refine lv_aload_n hx hb dX8_runScript_70 rfl (lv_at hl 0 rfl) ?_
          have hl : lv_has ls 8 [(0, .ref (ma 0)), (1, .int (nI n9)), (2, .long sc), (4, .long (uI n9)), (6, .int (nI i))] := by rw [← show (uI i) = (uI n9) from (by rw [show i = n9 from hexit n9 rfl hn91 hn93])]; exact hl
          refine va_get (D := g) (ci := 6) (v := .ref (ma 2)) (C := RX8) (T := TX8) (N := 13) hx hb hts bgX8 hown hK hP 0 rfl rfl 3 (by decide) (hts _ wd5_21) (fun _ h9 => h9) rfl dX8_runScript_71 ?_
          refine lv_iconst (v := (nI 0)) hx hb dX8_runScript_74 (by decide) ?_
          refine lv_aload_n hx hb dX8_runScript_75 rfl (lv_at hl 0 rfl) ?_
          refine va_get (D := g) (ci := 6) (v := .ref (ma 3)) (C := RX8) (T := TX8) (N := 13) hx hb hts bgX8 hown hK hP 0 rfl rfl 4 (by decide) (hts _ wd5_22) (fun _ h9 => h9) rfl dX8_runScript_76 ?_
          refine lv_iconst (v := (nI 0)) hx hb dX8_runScript_79 (by decide) ?_
          refine wr_call (wc := [aI cy (ma 2) 248 (mS σ), aI cy (ma 3) 248 (mS tr)]) (va_runS (As := [.ref (ma 2), .int (nI 0), .ref (ma 3), .int (nI 0)]) (rest := []) ⟨hx, hb, hml, hown, hts⟩ (c_X8_copyState l g cy (ma 2) (ma 3) H.size 248 248 σ tr 0 0 (by omega) (by omega) (by omega) (by omega)) ⟨(cB 4 hts wd23_3 wd1_5 wd23_1 rfl rfl (by decide +kernel) ⟨Nat.le_of_ble_eq_true rfl, Nat.le_of_ble_eq_true rfl⟩), hts _ wd23_2⟩ (ps hK hP hD hS hA hX [2, 3] rfl rfl) rfl rfl hl.1 rfl (lv_room (Nat.le_of_ble_eq_true rfl)) dX8_runScript_80 ⟨Nat.zero_le _, Nat.zero_le _⟩) hP hD hS hA [2, 3] rfl rfl (fun _ => (rfl : ([ma 2, ma 3] : List Nat) = [ma 2, ma 3])) ?_
          rintro _u9 H locs - hP hD hS
          have hP : va_P g vwCl [(ma 0, .inr (6, [.int (nI (rkm 0 1 0 (fRun (nI n9) sc))), .ref (ma 1), .int (nI ln), .ref (ma 2), .ref (ma 3), .ref (ma 4), .int (nI n), .ref (ma 5), .ref (ma 6), .ref (ma 7), .ref (ma 8), .int (nI sp), .int (nI ou)])), aI cy (ma 1) 120 (mS tx), aI cy (ma 2) 248 (mS σ), aI cy (ma 3) 248 (mS (cpS σ tr 0 0 248)), aI cy (ma 4) 3472 (mS dy), aI cy (ma 5) 496 (mS kp), aZ cy (ma 6) 2 (fun j => bI (fl j)), aI cy (ma 7) 144 (mS wy), aI cy (ma 8) 8 (mS hp)] H := hP
          have hD : va_D A [(ma 0, .inr (6, [.int (nI (rkm 0 1 0 (fRun (nI n9) sc))), .ref (ma 1), .int (nI ln), .ref (ma 2), .ref (ma 3), .ref (ma 4), .int (nI n), .ref (ma 5), .ref (ma 6), .ref (ma 7), .ref (ma 8), .int (nI sp), .int (nI ou)])), aI cy (ma 1) 120 (mS tx), aI cy (ma 2) 248 (mS σ), aI cy (ma 3) 248 (mS (cpS σ tr 0 0 248)), aI cy (ma 4) 3472 (mS dy), aI cy (ma 5) 496 (mS kp), aZ cy (ma 6) 2 (fun j => bI (fl j)), aI cy (ma 7) 144 (mS wy), aI cy (ma 8) 8 (mS hp)] := hD
          show W _ _ _ _ _ _ _ _ _ _ _ _ _ _ _ (F0 mX 83 ls [])
          obtain ⟨hP, hD⟩ := arr_c (mS σ) hP hD 3 rfl (fun j hj => cp_00 hj)
          have hP : va_P g vwCl [(ma 0, .inr (6, [.int (nI (rkm 0 1 0 (fRun (nI n9) sc))), .ref (ma 1), .int (nI ln), .ref (ma 2), .ref (ma 3), .ref (ma 4), .int (nI n), .ref (ma 5), .ref (ma 6), .ref (ma 7), .ref (ma 8), .int (nI sp), .int (nI ou)])), aI cy (ma 1) 120 (mS tx), aI cy (ma 2) 248 (mS σ), aI cy (ma 3) 248 (mS σ), aI cy (ma 4) 3472 (mS dy), aI cy (ma 5) 496 (mS kp), aZ cy (ma 6) 2 (fun j => bI (fl j)), aI cy (ma 7) 144 (mS wy), aI cy (ma 8) 8 (mS hp)] H := hP
          have hD : va_D A [(ma 0, .inr (6, [.int (nI (rkm 0 1 0 (fRun (nI n9) sc))), .ref (ma 1), .int (nI ln), .ref (ma 2), .ref (ma 3), .ref (ma 4), .int (nI n), .ref (ma 5), .ref (ma 6), .ref (ma 7), .ref (ma 8), .int (nI sp), .int (nI ou)])), aI cy (ma 1) 120 (mS tx), aI cy (ma 2) 248 (mS σ), aI cy (ma 3) 248 (mS σ), aI cy (ma 4) 3472 (mS dy), aI cy (ma 5) 496 (mS kp), aZ cy (ma 6) 2 (fun j => bI (fl j)), aI cy (ma 7) 144 (mS wy), aI cy (ma 8) 8 (mS hp)] := hD
          refine lv_iconst (v := (nI 0)) hx hb dX8_runScript_83 (by decide) ?_
          refine lv_istore (lv' := [(6, .int (nI 0)), (0, .ref (ma 0)), (1, .int (nI n9)), (2, .long sc), (4, .long (uI n9))]) hx hb dX8_runScript_84 hl (by decide) rfl (fun ls hl => ?_)
          have hl : lv_has ls 8 [(6, .int (nI (n9 - n9))), (0, .ref (ma 0)), (1, .int (nI n9)), (2, .long sc), (4, .long (uI n9))] := by rw [← show (nI 0) = (nI (n9 - n9)) from (congrArg nI (Nat.sub_self _).symm)]; exact hl
          refine lp_rule (σ := (Nat) × (Nat → Nat) × (Nat → Nat) × (Nat → Nat)) (fun x9 H9 locs9 ls9 => va_P g vwCl [(ma 0, .inr (6, [.int (nI (rkm 0 1 0 (fRun (nI n9) sc))), .ref (ma 1), .int (nI ln), .ref (ma 2), .ref (ma 3), .ref (ma 4), .int (nI n), .ref (ma 5), .ref (ma 6), .ref (ma 7), .ref (ma 8), .int (nI sp), .int (nI ou)])), aI cy (ma 1) 120 (mS tx), aI cy (ma 2) 248 (mS σ), aI cy (ma 3) 248 (mS x9.2.1), aI cy (ma 4) 3472 (mS dy), aI cy (ma 5) 496 (mS kp), aZ cy (ma 6) 2 (fun j => bI (fl j)), aI cy (ma 7) 144 (mS x9.2.2.1), aI cy (ma 8) 8 (mS x9.2.2.2)] H9 ∧ va_D A [(ma 0, .inr (6, [.int (nI (rkm 0 1 0 (fRun (nI n9) sc))), .ref (ma 1), .int (nI ln), .ref (ma 2), .ref (ma 3), .ref (ma 4), .int (nI n), .ref (ma 5), .ref (ma 6), .ref (ma 7), .ref (ma 8), .int (nI sp), .int (nI ou)])), aI cy (ma 1) 120 (mS tx), aI cy (ma 2) 248 (mS σ), aI cy (ma 3) 248 (mS x9.2.1), aI cy (ma 4) 3472 (mS dy), aI cy (ma 5) 496 (mS kp), aZ cy (ma 6) 2 (fun j => bI (fl j)), aI cy (ma 7) 144 (mS x9.2.2.1), aI cy (ma 8) 8 (mS x9.2.2.2)] ∧ va_S A s.heap H9 locs9 ∧ lv_has ls9 8 [(0, .ref (ma 0)), (1, .int (nI n9)), (2, .long sc), (4, .long (uI x9.1)), (6, .int (nI (n9 - x9.1)))] ∧ (x9.1 ≤ n9) ∧ (WF (bd + 99 * (n9 - x9.1)) x9.2.1) ∧ (rnI sc n9 x9.1 x9.2.1 = rnI sc n9 n9 σ)) (fun x9 => x9.1) (n9, σ, wy, hp) ⟨hP, hD, hS, lv_sub hl [1, 2, 3, 4, 0] rfl, (Nat.le_refl _), (WF_mono hwf (by dsimp only; omega) (by dsimp only; omega)), rfl⟩ ?_
          rintro ⟨k, τ, wy8, w98⟩ H locs ls ⟨hP, hD, hS, hl, hk, hwt, hrn⟩ ih86
          try dsimp only at hl hk hwt hrn hP hD ih86
          refine lv_iload hx hb dX8_runScript_86 (lv_at hl 4 rfl) ?_
          refine lv_iload_n hx hb dX8_runScript_88 rfl (lv_at hl 1 rfl) ?_
          refine lv_icmp_ge (tgt := 137) hx hb dX8_runScript_89 (by decide) (fun c_89 => ?_) (fun c_89 => ?_)
          · have c_89 := (nc_le (by omega) (by omega) c_89)
            refine lv_iconst (v := (nI NN)) hx hb dX8_runScript_137 (by decide) ?_
            have hk0 : k = 0 := by omega
            have hrv : rnI sc n9 n9 σ = NN := by rw [← hrn, hk0]; rfl
            exact wr_i (τ, dy, kp, wy8, w98, sp, ou, (rkm 0 1 0 (fRun (nI n9) sc))) (by rw [if_pos c_65, nI_clamp (by omega), hrv]) ⟨rfl, ⟨hwf, hn14, hdy, hkp, htx, hln⟩⟩ hP hS hx hb hr dX8_runScript_138 hlk
          · have c_89 := (nc_nle (by omega) (by omega) c_89)
            obtain ⟨k, rfl⟩ : ∃ k1, k = k1 + 1 := ⟨k - 1, by omega⟩
            have hg9 := grp_lt (sc := sc) (k := k)
            refine lv_lload hx hb dX8_runScript_92 (lv_at hl 3 rfl) ?_
            refine lv_ldc2 hx hb hown (hts _ wd39_7) dX8_runScript_94 ?_
            refine lv_ldiv hx hb dX8_runScript_97 (by decide) ?_
            refine tl (show ((uI (k + 1)) / (1000000 : Int64)) = (uI k) from (uI_d (by omega))) ?_
            refine lv_lstore (lv' := [(4, .long (uI k)), (0, .ref (ma 0)), (1, .int (nI n9)), (2, .long sc), (6, .int (nI (n9 - (k + 1))))]) hx hb dX8_runScript_98 hl (by decide) rfl (fun ls hl => ?_)
            refine lv_lload_n hx hb dX8_runScript_100 rfl (lv_at hl 3 rfl) ?_
            refine lv_lload hx hb dX8_runScript_101 (lv_at hl 0 rfl) ?_
            refine lv_ldiv hx hb dX8_runScript_103 (uI_ne (by omega)) ?_
            refine lv_ldc2 hx hb hown (hts _ wd39_7) dX8_runScript_104 ?_
            refine lv_lrem hx hb dX8_runScript_107 (by decide) ?_
            refine lv_l2i (v := ((sc / (uI k)) - (sc / (uI k)) / (1000000 : Int64) * (1000000 : Int64)).toInt32) hx hb dX8_runScript_108 rfl ?_
            refine ti (show (((sc / (uI k)) - (sc / (uI k)) / (1000000 : Int64) * (1000000 : Int64)).toInt32) = (nI (grp sc k)) from (grp_eq hs0 (by omega))) ?_
            refine lv_istore (lv' := [(7, .int (nI (grp sc k))), (4, .long (uI k)), (0, .ref (ma 0)), (1, .int (nI n9)), (2, .long sc), (6, .int (nI (n9 - (k + 1))))]) hx hb dX8_runScript_109 hl (by decide) rfl (fun ls hl => ?_)
            refine lv_aload_n hx hb dX8_runScript_111 rfl (lv_at hl 2 rfl) ?_
            refine lv_iload hx hb dX8_runScript_112 (lv_at hl 0 rfl) ?_
            refine lv_ldc hx hb hown (hts _ wd39_8) dX8_runScript_114 ?_
            refine ti (show (100000 : Int32) = nI 100000 from by decide) ?_
            refine lv_idiv hx hb dX8_runScript_116 (nI_ne0 (by omega) (by omega)) ?_
            refine ti (pk_div (a := (grp sc k)) (d := 100000) (by omega) (by omega) (by omega)) ?_
            refine lv_iload hx hb dX8_runScript_117 (lv_at hl 0 rfl) ?_
            refine lv_ldc hx hb hown (hts _ wd39_8) dX8_runScript_119 ?_
            refine ti (show (100000 : Int32) = nI 100000 from by decide) ?_
            refine lv_irem hx hb dX8_runScript_121 (nI_ne0 (by omega) (by omega)) ?_
            refine ti (pk_rem (a := (grp sc k)) (d := 100000) (by omega) (by omega) (by omega)) ?_
            refine wr_call (wc := [(ma 0, .inr (6, [.int (nI (rkm 0 1 0 (fRun (nI n9) sc))), .ref (ma 1), .int (nI ln), .ref (ma 2), .ref (ma 3), .ref (ma 4), .int (nI n), .ref (ma 5), .ref (ma 6), .ref (ma 7), .ref (ma 8), .int (nI sp), .int (nI ou)])), aI cy (ma 1) 120 (mS tx), aI cy (ma 2) 248 (mS σ), aI cy (ma 3) 248 (mS τ), aI cy (ma 4) 3472 (mS dy), aI cy (ma 5) 496 (mS kp), aZ cy (ma 6) 2 (fun j => bI (fl j)), aI cy (ma 7) 144 (mS wy8), aI cy (ma 8) 8 (mS w98)]) (va_runV (As := [.int (nI ((grp sc k) / 100000)), .int (nI ((grp sc k) % 100000))]) (rest := []) ⟨hx, hb, hml, hown, hts⟩ (c_X8_command l g cy  H.size ma τ dy kp wy8 w98 sp ou (rkm 0 1 0 (fRun (nI n9) sc)) σ n fl tx ln (bd + 99 * (n9 - (k + 1))) ((grp sc k) / 100000) ((grp sc k) % 100000) hwt (by omega) (by omega)) ⟨(cB 2 hts wd39_12 wd1_5 wd39_9 rfl rfl (by decide +kernel) ⟨Nat.le_of_ble_eq_true rfl, Nat.le_of_ble_eq_true rfl⟩), hts _ wd39_10, hts _ wd39_11⟩ (pv hK hP hD hS hA hX [0, 1, 2, 3, 4, 5, 6, 7, 8] rfl rfl 6 0 rfl rfl) rfl rfl hl.1 rfl (lv_room (Nat.le_of_ble_eq_true rfl)) dX8_runScript_122 ⟨Nat.zero_le _, Nat.zero_le _⟩) hP hD hS hA [0, 1, 2, 3, 4, 5, 6, 7, 8] rfl rfl (fun _ => (rfl : ([ma 0, ma 1, ma 2, ma 3, ma 4, ma 5, ma 6, ma 7, ma 8] : List Nat) = [ma 0, ma 1, ma 2, ma 3, ma 4, ma 5, ma 6, ma 7, ma 8])) ?_
            rintro ⟨s1_122, wy1_122, w91_122⟩ H locs ho_122 hP hD hS
            have hP : va_P g vwCl [(ma 0, .inr (6, [.int (nI (rkm 0 1 0 (fRun (nI n9) sc))), .ref (ma 1), .int (nI ln), .ref (ma 2), .ref (ma 3), .ref (ma 4), .int (nI n), .ref (ma 5), .ref (ma 6), .ref (ma 7), .ref (ma 8), .int (nI sp), .int (nI ou)])), aI cy (ma 1) 120 (mS tx), aI cy (ma 2) 248 (mS σ), aI cy (ma 3) 248 (mS s1_122), aI cy (ma 4) 3472 (mS dy), aI cy (ma 5) 496 (mS kp), aZ cy (ma 6) 2 (fun j => bI (fl j)), aI cy (ma 7) 144 (mS wy1_122), aI cy (ma 8) 8 (mS w91_122)] H := hP
            have hD : va_D A [(ma 0, .inr (6, [.int (nI (rkm 0 1 0 (fRun (nI n9) sc))), .ref (ma 1), .int (nI ln), .ref (ma 2), .ref (ma 3), .ref (ma 4), .int (nI n), .ref (ma 5), .ref (ma 6), .ref (ma 7), .ref (ma 8), .int (nI sp), .int (nI ou)])), aI cy (ma 1) 120 (mS tx), aI cy (ma 2) 248 (mS σ), aI cy (ma 3) 248 (mS s1_122), aI cy (ma 4) 3472 (mS dy), aI cy (ma 5) 496 (mS kp), aZ cy (ma 6) 2 (fun j => bI (fl j)), aI cy (ma 7) 144 (mS wy1_122), aI cy (ma 8) 8 (mS w91_122)] := hD
            have ho_122 : scB (100000 * ((grp sc k) / 100000) + ((grp sc k) % 100000)) τ = true → s1_122 = scS (100000 * ((grp sc k) / 100000) + ((grp sc k) % 100000)) τ := ho_122
            show W _ _ _ _ _ _ _ _ _ _ _ _ _ _ _ (F0 mX 125 ls [.int (bI (scB (100000 * ((grp sc k) / 100000) + ((grp sc k) % 100000)) τ))])
            refine ti (show (bI (scB (100000 * ((grp sc k) / 100000) + ((grp sc k) % 100000)) τ)) = (bI (scB (grp sc k) τ)) from (congrArg bI (by rw [Nat.div_add_mod]))) ?_
            have ho9 : scB (grp sc k) τ = true → s1_122 = scS (grp sc k) τ := by have h9 := ho_122; rw [Nat.div_add_mod] at h9; exact h9
            refine lv_if_ne (tgt := 131) hx hb dX8_runScript_125 (by decide) (fun c_125 => ?_) (fun c_125 => ?_)
            · have c_125 := (bI_ne0.mp c_125)
              refine lv_iinc (v := (nI ((n9 - (k + 1)) + 1))) (lv' := [(6, .int (nI ((n9 - (k + 1)) + 1))), (7, .int (nI (grp sc k))), (4, .long (uI k)), (0, .ref (ma 0)), (1, .int (nI n9)), (2, .long sc)]) hx hb dX8_runScript_131 hl (k := 5) rfl (nI_add (n9 - (k + 1)) 1) (by decide) rfl (fun ls hl => ?_)
              have hl : lv_has ls 8 [(6, .int (nI (n9 - k))), (7, .int (nI (grp sc k))), (4, .long (uI k)), (0, .ref (ma 0)), (1, .int (nI n9)), (2, .long sc)] := by rw [← show (nI ((n9 - (k + 1)) + 1)) = (nI (n9 - k)) from (congrArg nI (by omega))]; exact hl
              refine lv_goto (tgt := 86) hx hb dX8_runScript_134 (by decide) ?_
              exact ih86 (k, s1_122, wy1_122, w91_122) H locs ls ⟨hP, hD, hS, lv_sub hl [3, 4, 5, 2, 0] rfl, (by (try dsimp only); omega), (by (try dsimp only); rw [ho9 c_125]; exact WF_mono (WF_scS hwt (by omega)) (by omega) (by omega)), (by (try dsimp only); rw [ho9 c_125, ← hrn]; exact (if_pos c_125).symm)⟩ (by first | omega | (dsimp only; omega))
            · have c_125 := (bI_eq0.mp c_125)
              refine lv_iload hx hb dX8_runScript_128 (lv_at hl 5 rfl) ?_
              have hrv : rnI sc n9 n9 σ = n9 - (k + 1) := by rw [← hrn]; exact if_neg (by rw [c_125]; decide)
              exact wr_i (s1_122, dy, kp, wy1_122, w91_122, sp, ou, rkm 0 1 0 (fRun (nI n9) sc)) (by rw [if_pos c_65, nI_clamp (by omega), hrv]) ⟨rfl, ⟨hwf, hn14, hdy, hkp, htx, hln⟩⟩ hP hS hx hb hr dX8_runScript_130 hlk
        · have c_65 := (bI_ne0.mp c_65)
          have c_65 : ¬ fRun vn sc = 0 := fun e => by rw [e] at c_65; exact absurd c_65 (by decide)
          refine lv_iconst (v := (nI 0)) hx hb dX8_runScript_68 (by decide) ?_
          exact wr_i (tr, dy, kp, wy, hp, sp, ou, rkm 0 1 0 (fRun vn sc)) (by rw [if_neg c_65]) ⟨rfl, (by skip; exact ⟨hwf, hn14, hdy, hkp, htx, hln⟩)⟩ (by skip; exact hP) hS hx hb hr dX8_runScript_69 hlk
      · skip
        refine lv_iload_n hx hb dX8_runScript_33 rfl (lv_at hl 1 rfl) ?_
        refine lv_i2l (v := vn.toInt64) hx hb dX8_runScript_34 rfl ?_
        refine lv_lconst (v := 1) hx hb dX8_runScript_35 rfl ?_
        refine lv_ldc2 hx hb hown (hts _ wd30_16) dX8_runScript_36 ?_
        refine rd_call (va_runS (As := [.long vn.toInt64, .long (1 : Int64), .long (3 : Int64)]) (rest := [.ref (ma 0)]) ⟨hx, hb, hml, hown, hts⟩ (c_X8_in l vn.toInt64 (1 : Int64) (3 : Int64) ) ⟨(cB 3 hts wd7_17 wd1_5 wd7_15 rfl rfl (by decide +kernel) ⟨Nat.le_of_ble_eq_true rfl, Nat.le_of_ble_eq_true rfl⟩), hts _ wd7_16⟩ p0 rfl rfl hl.1 rfl (lv_room (Nat.le_of_ble_eq_true rfl)) dX8_runScript_39 ⟨Nat.zero_le _, Nat.zero_le _⟩) ?_
        show W _ _ _ _ _ _ _ _ _ _ _ _ _ _ _ (F0 mX 42 ls [.int (bI (inL vn.toInt64 (1 : Int64) (3 : Int64))), .ref (ma 0)])
        refine ti (show (bI (inL vn.toInt64 (1 : Int64) (3 : Int64))) = (bI (inR vn (nI 1) (nI 3))) from (congrArg bI (inL_c (a := 1) (b := 3) (by decide) (by decide)))) ?_
        refine lv_if_eq (tgt := 61) hx hb dX8_runScript_42 (by decide) (fun c_42 => ?_) (fun c_42 => ?_)
        · have c_42 := (bI_eq0.mp c_42)
          refine lv_iconst (v := (nI 1)) hx hb dX8_runScript_61 (by decide) ?_
          exact jn62 _ (congrArg nI (by simp [rkm, fRun, c_42]))
        · have c_42 := (bI_ne0.mp c_42)
          obtain ⟨n9, hn91, hn93, hvn⟩ := inR_ex (by decide) (by decide) c_42
          have hin : i = n9 := hexit n9 hvn hn91 hn93
          have hfr9 := fRun_e (sc := sc) c_42 hvn hn93 hin
          refine lv_lload_n hx hb dX8_runScript_45 rfl (lv_at hl 2 rfl) ?_
          refine lv_lconst (v := 0) hx hb dX8_runScript_46 rfl ?_
          refine lv_lload hx hb dX8_runScript_47 (lv_at hl 3 rfl) ?_
          refine lv_lconst (v := 1) hx hb dX8_runScript_49 rfl ?_
          refine lv_lsub hx hb dX8_runScript_50 ?_
          refine rd_call (va_runS (As := [.long sc, .long (0 : Int64), .long ((uI i) - (1 : Int64))]) (rest := [.ref (ma 0)]) ⟨hx, hb, hml, hown, hts⟩ (c_X8_in l sc (0 : Int64) ((uI i) - (1 : Int64)) ) ⟨(cB 3 hts wd7_17 wd1_5 wd7_15 rfl rfl (by decide +kernel) ⟨Nat.le_of_ble_eq_true rfl, Nat.le_of_ble_eq_true rfl⟩), hts _ wd7_16⟩ p0 rfl rfl hl.1 rfl (lv_room (Nat.le_of_ble_eq_true rfl)) dX8_runScript_51 ⟨Nat.zero_le _, Nat.zero_le _⟩) ?_
          show W _ _ _ _ _ _ _ _ _ _ _ _ _ _ _ (F0 mX 54 ls [.int (bI (inL sc (0 : Int64) ((uI i) - (1 : Int64)))), .ref (ma 0)])
          refine ti (show (bI (inL sc (0 : Int64) ((uI i) - (1 : Int64)))) = (bI (!decide (sc < 0) && decide (sc < uI i))) from (congrArg bI (inL_u (by omega)))) ?_
          refine lv_if_eq (tgt := 61) hx hb dX8_runScript_54 (by decide) (fun c_54 => ?_) (fun c_54 => ?_)
          · have c_54 := (bI_eq0.mp c_54)
            refine lv_iconst (v := (nI 1)) hx hb dX8_runScript_61 (by decide) ?_
            exact jn62 _ (congrArg nI (by rw [hfr9, c_54]; rfl))
          · have c_54 := (bI_ne0.mp c_54)
            refine lv_iconst (v := (nI 0)) hx hb dX8_runScript_57 (by decide) ?_
            refine lv_goto (tgt := 62) hx hb dX8_runScript_58 (by decide) ?_
            exact jn62 _ (congrArg nI (by rw [hfr9, c_54]; rfl))
    · have c_15 := (nc_nle (by omega) (by omega) c_15)
      refine lv_lload hx hb dX8_runScript_18 (lv_at hl 3 rfl) ?_
      refine lv_ldc2 hx hb hown (hts _ wd39_7) dX8_runScript_20 ?_
      refine lv_lmul hx hb dX8_runScript_23 ?_
      refine tl (show ((uI i) * (1000000 : Int64)) = (uI (i + 1)) from (uI_s i)) ?_
      refine lv_lstore (lv' := [(4, .long (uI (i + 1))), (0, .ref (ma 0)), (1, .int vn), (2, .long sc), (6, .int (nI i))]) hx hb dX8_runScript_24 hl (by decide) rfl (fun ls hl => ?_)
      refine lv_iinc (v := (nI (i + 1))) (lv' := [(6, .int (nI (i + 1))), (4, .long (uI (i + 1))), (0, .ref (ma 0)), (1, .int vn), (2, .long sc)]) hx hb dX8_runScript_26 hl (k := 4) rfl (nI_add i 1) (by decide) rfl (fun ls hl => ?_)
      refine lv_goto (tgt := 6) hx hb dX8_runScript_29 (by decide) ?_
      exact ih6 (i + 1) ls ⟨lv_sub hl [2, 3, 4, 1, 0] rfl, (by (try dsimp only); omega), (fun j hj => by (try dsimp only at hj); rcases Nat.lt_succ_iff_lt_or_eq.mp hj with h8 | h8; exact hiv j h8; rw [h8]; exact Int32.not_le.mp c_9)⟩ (by first | omega | (dsimp only; omega))
set_option maxHeartbeats 4000000 in
set_option maxRecDepth 100000 in
theorem c_X8_simulate (l : Launch) (g : va_G) (cy : Nat → ClassId) (ma : Nat → Nat) (sz : Nat) (bd : Nat) (q : Mc) (σ : Nat → Nat) (Hh : Nat → Nat → Nat) (n : Nat) (K : Nat → Nat → Nat) (fl : Nat → Bool) (tx : Nat → Nat) (ln : Nat) (vm : Int32) (sd : Int64) (hI : mI bd q σ Hh n K fl tx ln) (hbd : bd + 5940 ≤ 100000) : Met l yX8_simulate (Cond.code yX8_simulate cX8_simulate 8 (some .int) :: wsL_law) ({ frames := 7, cells := 0, slots := 0, locals := 173 } : Room) (va_Pc [.ref (ma 0), .long sd, .int vm] (pr g cy (mQ cy ma q σ n fl tx ln) sz)) (wr_Q (fun _ : Mc => (some (.int (if fSim vm = 0 then simA σ (siS sd σ vm.toNatClampNeg) else 0)))) (fun q9 : Mc => q9.2.2.2.2.2.2.2 = rkm 0 1 0 (fSim vm) ∧ mI bd q9 σ Hh n K fl tx ln) (fun q9 : Mc => mQ cy ma q9 σ n fl tx ln) g (va_A (mQ cy ma q σ n fl tx ln) sz)) 0 0 (va_A (mQ cy ma q σ n fl tx ln) sz) := by
  obtain ⟨tr, dy, kp, wy, hp, sp, ou, rf⟩ := q
  obtain ⟨hwf, hn14, hdy, hkp, htx, hln⟩ := hI
  have hdy : ∀ k, k < n → ∀ j, j < 248 → dy (248 * k + j) = Hh k j := hdy
  have hkp : ∀ k, k < 2 → fl k = true → ∀ j, j < 248 → kp (248 * k + j) = K k j := hkp
  refine mt_of (cc := cX8_simulate) (maxL := 8) (ret := (some .int)) (by decide +kernel) (Nat.le_of_ble_eq_true rfl) ?_
  intro pX eX s mX below meth cX ls A hx hb hr hml hown hts hlk hin hsz hAe hA hP hD hK hX hl
  subst hsz
  rw [← hAe]
  clear hAe
  have hP : va_P g vwCl [(ma 0, .inr (6, [.int (nI rf), .ref (ma 1), .int (nI ln), .ref (ma 2), .ref (ma 3), .ref (ma 4), .int (nI n), .ref (ma 5), .ref (ma 6), .ref (ma 7), .ref (ma 8), .int (nI sp), .int (nI ou)])), aI cy (ma 1) 120 (mS tx), aI cy (ma 2) 248 (mS σ), aI cy (ma 3) 248 (mS tr), aI cy (ma 4) 3472 (mS dy), aI cy (ma 5) 496 (mS kp), aZ cy (ma 6) 2 (fun j => bI (fl j)), aI cy (ma 7) 144 (mS wy), aI cy (ma 8) 8 (mS hp)] s.heap := hP
  have hD : va_D A [(ma 0, .inr (6, [.int (nI rf), .ref (ma 1), .int (nI ln), .ref (ma 2), .ref (ma 3), .ref (ma 4), .int (nI n), .ref (ma 5), .ref (ma 6), .ref (ma 7), .ref (ma 8), .int (nI sp), .int (nI ou)])), aI cy (ma 1) 120 (mS tx), aI cy (ma 2) 248 (mS σ), aI cy (ma 3) 248 (mS tr), aI cy (ma 4) 3472 (mS dy), aI cy (ma 5) 496 (mS kp), aZ cy (ma 6) 2 (fun j => bI (fl j)), aI cy (ma 7) 144 (mS wy), aI cy (ma 8) 8 (mS hp)] := hD
  have hl : lv_has ls 8 [(0, .ref (ma 0)), (1, .long sd), (3, .int vm)] := hl
  have hS : va_S A s.heap s.heap [] := va_S.rf
  have hn0 := hwf.n0
  have hn1 := hwf.n1
  have hh2 := hwf.h2
  have hfr : fSim vm = 0 ∨ 0 < rkm 0 1 0 (fSim vm) := by unfold fSim rkm; (repeat' split) <;> omega
  have hfl9 : rkm 0 1 0 (fSim vm) < 10 := by unfold rkm; (repeat' split) <;> omega
  refine lv_aload_n hx hb dX8_simulate_0 rfl (lv_at hl 0 rfl) ?_
  refine jn_i (pcj := 18) (ls := ls) (st := [.ref (ma 0)]) (fun v9 => v9 = (nI (rkm 0 1 0 (fSim vm)))) ?_ (fun jn18 => ?_)
  · intro v9 hv9
    subst hv9
    refine wr_call (wc := [(ma 0, .inr (6, [.int (nI rf), .ref (ma 1), .int (nI ln), .ref (ma 2), .ref (ma 3), .ref (ma 4), .int (nI n), .ref (ma 5), .ref (ma 6), .ref (ma 7), .ref (ma 8), .int (nI sp), .int (nI ou)]))]) (va_runV (As := [.int (nI (rkm 0 1 0 (fSim vm)))]) (rest := []) ⟨hx, hb, hml, hown, hts⟩ (c_X8_refused l g cy (ma 0) (ma 1) (ma 2) (ma 3) (ma 4) (ma 5) (ma 6) (ma 7) (ma 8) s.heap.size rf ln n sp ou (rkm 0 1 0 (fSim vm)) (by omega)) ⟨(cB 1 hts wd7_21 wd1_5 wd7_18 rfl rfl (by decide +kernel) ⟨Nat.le_of_ble_eq_true rfl, Nat.le_of_ble_eq_true rfl⟩), hts _ wd7_19, hts _ wd7_20⟩ (pv hK hP hD hS hA hX [0] rfl rfl 6 0 rfl rfl) rfl rfl hl.1 rfl (lv_room (Nat.le_of_ble_eq_true rfl)) dX8_simulate_18 ⟨Nat.zero_le _, Nat.zero_le _⟩) hP hD hS hA [0] rfl rfl (fun _ => (rfl : ([ma 0] : List Nat) = [ma 0])) ?_
    rintro _u9 H locs - hP hD hS
    have hP : va_P g vwCl [(ma 0, .inr (6, [.int (nI (rkm 0 1 0 (fSim vm))), .ref (ma 1), .int (nI ln), .ref (ma 2), .ref (ma 3), .ref (ma 4), .int (nI n), .ref (ma 5), .ref (ma 6), .ref (ma 7), .ref (ma 8), .int (nI sp), .int (nI ou)])), aI cy (ma 1) 120 (mS tx), aI cy (ma 2) 248 (mS σ), aI cy (ma 3) 248 (mS tr), aI cy (ma 4) 3472 (mS dy), aI cy (ma 5) 496 (mS kp), aZ cy (ma 6) 2 (fun j => bI (fl j)), aI cy (ma 7) 144 (mS wy), aI cy (ma 8) 8 (mS hp)] H := hP
    have hD : va_D A [(ma 0, .inr (6, [.int (nI (rkm 0 1 0 (fSim vm))), .ref (ma 1), .int (nI ln), .ref (ma 2), .ref (ma 3), .ref (ma 4), .int (nI n), .ref (ma 5), .ref (ma 6), .ref (ma 7), .ref (ma 8), .int (nI sp), .int (nI ou)])), aI cy (ma 1) 120 (mS tx), aI cy (ma 2) 248 (mS σ), aI cy (ma 3) 248 (mS tr), aI cy (ma 4) 3472 (mS dy), aI cy (ma 5) 496 (mS kp), aZ cy (ma 6) 2 (fun j => bI (fl j)), aI cy (ma 7) 144 (mS wy), aI cy (ma 8) 8 (mS hp)] := hD
    show W _ _ _ _ _ _ _ _ _ _ _ _ _ _ _ (F0 mX 21 ls [.int (bI (decide (0 < (rkm 0 1 0 (fSim vm)))))])
    refine lv_if_eq (tgt := 26) hx hb dX8_simulate_21 (by decide) (fun c_21 => ?_) (fun c_21 => ?_)
    · have c_21 := (bI_eq0.mp c_21)
      have c_21 : fSim vm = 0 := hfr.resolve_right (of_decide_eq_false c_21)
      obtain ⟨m9, hm91, hm92, rfl⟩ := fSim_0 c_21
      refine lv_aload_n hx hb dX8_simulate_26 rfl (lv_at hl 0 rfl) ?_
      refine va_get (D := g) (ci := 6) (v := .ref (ma 2)) (C := RX8) (T := TX8) (N := 13) hx hb hts bgX8 hown hK hP 0 rfl rfl 3 (by decide) (hts _ wd5_21) (fun _ h9 => h9) rfl dX8_simulate_27 ?_
      refine lv_iconst (v := (nI 0)) hx hb dX8_simulate_30 (by decide) ?_
      refine lv_aload_n hx hb dX8_simulate_31 rfl (lv_at hl 0 rfl) ?_
      refine va_get (D := g) (ci := 6) (v := .ref (ma 3)) (C := RX8) (T := TX8) (N := 13) hx hb hts bgX8 hown hK hP 0 rfl rfl 4 (by decide) (hts _ wd5_22) (fun _ h9 => h9) rfl dX8_simulate_32 ?_
      refine lv_iconst (v := (nI 0)) hx hb dX8_simulate_35 (by decide) ?_
      refine wr_call (wc := [aI cy (ma 2) 248 (mS σ), aI cy (ma 3) 248 (mS tr)]) (va_runS (As := [.ref (ma 2), .int (nI 0), .ref (ma 3), .int (nI 0)]) (rest := []) ⟨hx, hb, hml, hown, hts⟩ (c_X8_copyState l g cy (ma 2) (ma 3) H.size 248 248 σ tr 0 0 (by omega) (by omega) (by omega) (by omega)) ⟨(cB 4 hts wd23_3 wd1_5 wd23_1 rfl rfl (by decide +kernel) ⟨Nat.le_of_ble_eq_true rfl, Nat.le_of_ble_eq_true rfl⟩), hts _ wd23_2⟩ (ps hK hP hD hS hA hX [2, 3] rfl rfl) rfl rfl hl.1 rfl (lv_room (Nat.le_of_ble_eq_true rfl)) dX8_simulate_36 ⟨Nat.zero_le _, Nat.zero_le _⟩) hP hD hS hA [2, 3] rfl rfl (fun _ => (rfl : ([ma 2, ma 3] : List Nat) = [ma 2, ma 3])) ?_
      rintro _u9 H locs - hP hD hS
      have hP : va_P g vwCl [(ma 0, .inr (6, [.int (nI (rkm 0 1 0 (fSim (nI m9)))), .ref (ma 1), .int (nI ln), .ref (ma 2), .ref (ma 3), .ref (ma 4), .int (nI n), .ref (ma 5), .ref (ma 6), .ref (ma 7), .ref (ma 8), .int (nI sp), .int (nI ou)])), aI cy (ma 1) 120 (mS tx), aI cy (ma 2) 248 (mS σ), aI cy (ma 3) 248 (mS (cpS σ tr 0 0 248)), aI cy (ma 4) 3472 (mS dy), aI cy (ma 5) 496 (mS kp), aZ cy (ma 6) 2 (fun j => bI (fl j)), aI cy (ma 7) 144 (mS wy), aI cy (ma 8) 8 (mS hp)] H := hP
      have hD : va_D A [(ma 0, .inr (6, [.int (nI (rkm 0 1 0 (fSim (nI m9)))), .ref (ma 1), .int (nI ln), .ref (ma 2), .ref (ma 3), .ref (ma 4), .int (nI n), .ref (ma 5), .ref (ma 6), .ref (ma 7), .ref (ma 8), .int (nI sp), .int (nI ou)])), aI cy (ma 1) 120 (mS tx), aI cy (ma 2) 248 (mS σ), aI cy (ma 3) 248 (mS (cpS σ tr 0 0 248)), aI cy (ma 4) 3472 (mS dy), aI cy (ma 5) 496 (mS kp), aZ cy (ma 6) 2 (fun j => bI (fl j)), aI cy (ma 7) 144 (mS wy), aI cy (ma 8) 8 (mS hp)] := hD
      show W _ _ _ _ _ _ _ _ _ _ _ _ _ _ _ (F0 mX 39 ls [])
      obtain ⟨hP, hD⟩ := arr_c (mS σ) hP hD 3 rfl (fun j hj => cp_00 hj)
      have hP : va_P g vwCl [(ma 0, .inr (6, [.int (nI (rkm 0 1 0 (fSim (nI m9)))), .ref (ma 1), .int (nI ln), .ref (ma 2), .ref (ma 3), .ref (ma 4), .int (nI n), .ref (ma 5), .ref (ma 6), .ref (ma 7), .ref (ma 8), .int (nI sp), .int (nI ou)])), aI cy (ma 1) 120 (mS tx), aI cy (ma 2) 248 (mS σ), aI cy (ma 3) 248 (mS σ), aI cy (ma 4) 3472 (mS dy), aI cy (ma 5) 496 (mS kp), aZ cy (ma 6) 2 (fun j => bI (fl j)), aI cy (ma 7) 144 (mS wy), aI cy (ma 8) 8 (mS hp)] H := hP
      have hD : va_D A [(ma 0, .inr (6, [.int (nI (rkm 0 1 0 (fSim (nI m9)))), .ref (ma 1), .int (nI ln), .ref (ma 2), .ref (ma 3), .ref (ma 4), .int (nI n), .ref (ma 5), .ref (ma 6), .ref (ma 7), .ref (ma 8), .int (nI sp), .int (nI ou)])), aI cy (ma 1) 120 (mS tx), aI cy (ma 2) 248 (mS σ), aI cy (ma 3) 248 (mS σ), aI cy (ma 4) 3472 (mS dy), aI cy (ma 5) 496 (mS kp), aZ cy (ma 6) 2 (fun j => bI (fl j)), aI cy (ma 7) 144 (mS wy), aI cy (ma 8) 8 (mS hp)] := hD
      refine lv_lload_n hx hb dX8_simulate_39 rfl (lv_at hl 1 rfl) ?_
      refine lv_lstore (lv' := [(4, .long sd), (0, .ref (ma 0)), (1, .long sd), (3, .int (nI m9))]) hx hb dX8_simulate_40 hl (by decide) rfl (fun ls hl => ?_)
      refine lv_iconst (v := (nI 0)) hx hb dX8_simulate_42 (by decide) ?_
      refine lv_istore (lv' := [(6, .int (nI 0)), (4, .long sd), (0, .ref (ma 0)), (1, .long sd), (3, .int (nI m9))]) hx hb dX8_simulate_43 hl (by decide) rfl (fun ls hl => ?_)
      have hl : lv_has ls 8 [(6, .int (nI 0)), (4, .long (siX sd 0)), (0, .ref (ma 0)), (1, .long sd), (3, .int (nI m9))] := by rw [← show sd = (siX sd 0) from rfl]; exact hl
      refine lp_rule (σ := (Nat) × (Nat → Nat) × (Nat → Nat)) (fun x9 H9 locs9 ls9 => va_P g vwCl [(ma 0, .inr (6, [.int (nI (rkm 0 1 0 (fSim (nI m9)))), .ref (ma 1), .int (nI ln), .ref (ma 2), .ref (ma 3), .ref (ma 4), .int (nI n), .ref (ma 5), .ref (ma 6), .ref (ma 7), .ref (ma 8), .int (nI sp), .int (nI ou)])), aI cy (ma 1) 120 (mS tx), aI cy (ma 2) 248 (mS σ), aI cy (ma 3) 248 (mS (siS sd σ x9.1)), aI cy (ma 4) 3472 (mS dy), aI cy (ma 5) 496 (mS kp), aZ cy (ma 6) 2 (fun j => bI (fl j)), aI cy (ma 7) 144 (mS x9.2.1), aI cy (ma 8) 8 (mS x9.2.2)] H9 ∧ va_D A [(ma 0, .inr (6, [.int (nI (rkm 0 1 0 (fSim (nI m9)))), .ref (ma 1), .int (nI ln), .ref (ma 2), .ref (ma 3), .ref (ma 4), .int (nI n), .ref (ma 5), .ref (ma 6), .ref (ma 7), .ref (ma 8), .int (nI sp), .int (nI ou)])), aI cy (ma 1) 120 (mS tx), aI cy (ma 2) 248 (mS σ), aI cy (ma 3) 248 (mS (siS sd σ x9.1)), aI cy (ma 4) 3472 (mS dy), aI cy (ma 5) 496 (mS kp), aZ cy (ma 6) 2 (fun j => bI (fl j)), aI cy (ma 7) 144 (mS x9.2.1), aI cy (ma 8) 8 (mS x9.2.2)] ∧ va_S A s.heap H9 locs9 ∧ lv_has ls9 8 [(0, .ref (ma 0)), (1, .long sd), (3, .int (nI m9)), (4, .long (siX sd x9.1)), (6, .int (nI x9.1))] ∧ (x9.1 ≤ m9)) (fun x9 => m9 - x9.1) (0, wy, hp) ⟨hP, hD, hS, lv_sub hl [2, 3, 4, 1, 0] rfl, (by omega)⟩ ?_
      rintro ⟨k, wy8, w98⟩ H locs ls ⟨hP, hD, hS, hl, hk⟩ ih45
      try dsimp only at hl hk hP hD ih45
      refine lv_iload hx hb dX8_simulate_45 (lv_at hl 4 rfl) ?_
      refine lv_iload_n hx hb dX8_simulate_47 rfl (lv_at hl 2 rfl) ?_
      refine lv_icmp_ge (tgt := 95) hx hb dX8_simulate_48 (by decide) (fun c_48 => ?_) (fun c_48 => ?_)
      · have c_48 := (nc_le (by omega) (by omega) c_48)
        obtain rfl : k = m9 := by omega
        have hwt := WF_siS (x := sd) hwf k (by omega)
        refine lv_sipush (v := (nI 1000)) hx hb dX8_simulate_95 (by decide) ?_
        refine lv_aload_n hx hb dX8_simulate_98 rfl (lv_at hl 0 rfl) ?_
        refine va_get (D := g) (ci := 6) (v := .ref (ma 3)) (C := RX8) (T := TX8) (N := 13) hx hb hts bgX8 hown hK hP 0 rfl rfl 4 (by decide) (hts _ wd5_22) (fun _ h9 => h9) rfl dX8_simulate_99 ?_
        refine lv_iconst (v := (nI 4)) hx hb dX8_simulate_102 (by decide) ?_
        refine va_iald hx hb hK hP 3 0 rfl rfl (vp_in_nI (n := 4) (by omega) (by omega)) dX8_simulate_103 ?_
        refine ti (show (mS (siS sd σ k)) (nI 4).toNatClampNeg = nI ((siS sd σ k) 4) from by rw [nI_clamp (by omega)]; rfl) ?_
        refine lv_aload_n hx hb dX8_simulate_104 rfl (lv_at hl 0 rfl) ?_
        refine va_get (D := g) (ci := 6) (v := .ref (ma 2)) (C := RX8) (T := TX8) (N := 13) hx hb hts bgX8 hown hK hP 0 rfl rfl 3 (by decide) (hts _ wd5_21) (fun _ h9 => h9) rfl dX8_simulate_105 ?_
        refine lv_iconst (v := (nI 4)) hx hb dX8_simulate_108 (by decide) ?_
        refine va_iald hx hb hK hP 2 0 rfl rfl (vp_in_nI (n := 4) (by omega) (by omega)) dX8_simulate_109 ?_
        refine ti (show (mS σ) (nI 4).toNatClampNeg = nI (σ 4) from by rw [nI_clamp (by omega)]; rfl) ?_
        refine lv_isub hx hb dX8_simulate_110 ?_
        refine lv_sipush (v := (nI 1000)) hx hb dX8_simulate_111 (by decide) ?_
        refine lv_irem hx hb dX8_simulate_114 (nI_ne0 (by omega) (by omega)) ?_
        refine lv_imul hx hb dX8_simulate_115 ?_
        refine lv_bipush (v := (nI 10)) hx hb dX8_simulate_116 (by decide) ?_
        refine lv_aload_n hx hb dX8_simulate_118 rfl (lv_at hl 0 rfl) ?_
        refine wr_call (wc := [(ma 0, .inr (6, [.int (nI (rkm 0 1 0 (fSim (nI k)))), .ref (ma 1), .int (nI ln), .ref (ma 2), .ref (ma 3), .ref (ma 4), .int (nI n), .ref (ma 5), .ref (ma 6), .ref (ma 7), .ref (ma 8), .int (nI sp), .int (nI ou)])), aI cy (ma 1) 120 (mS tx), aI cy (ma 2) 248 (mS σ), aI cy (ma 3) 248 (mS (siS sd σ k)), aI cy (ma 4) 3472 (mS dy), aI cy (ma 5) 496 (mS kp), aZ cy (ma 6) 2 (fun j => bI (fl j)), aI cy (ma 7) 144 (mS wy8), aI cy (ma 8) 8 (mS w98)]) (va_runV (As := []) (rest := [.int (nI 10), .int ((nI 1000) * (((nI ((siS sd σ k) 4)) - (nI (σ 4))) - ((nI ((siS sd σ k) 4)) - (nI (σ 4))) / (nI 1000) * (nI 1000)))]) ⟨hx, hb, hml, hown, hts⟩ (c_X8_fraudsNow l g cy  H.size ma (siS sd σ k) dy kp wy8 w98 sp ou (rkm 0 1 0 (fSim (nI k))) σ n fl tx ln (bd + 99 * k) hwt) ⟨(cB 0 hts wd39_20 wd1_5 wd39_17 rfl rfl (by decide +kernel) ⟨Nat.le_of_ble_eq_true rfl, Nat.le_of_ble_eq_true rfl⟩), hts _ wd39_18, hts _ wd39_19⟩ (pv hK hP hD hS hA hX [0, 1, 2, 3, 4, 5, 6, 7, 8] rfl rfl 6 0 rfl rfl) rfl rfl hl.1 rfl (lv_room (Nat.le_of_ble_eq_true rfl)) dX8_simulate_119 ⟨Nat.zero_le _, Nat.zero_le _⟩) hP hD hS hA [0, 1, 2, 3, 4, 5, 6, 7, 8] rfl rfl (fun _ => (rfl : ([ma 0, ma 1, ma 2, ma 3, ma 4, ma 5, ma 6, ma 7, ma 8] : List Nat) = [ma 0, ma 1, ma 2, ma 3, ma 4, ma 5, ma 6, ma 7, ma 8])) ?_
        rintro _u9 H locs - hP hD hS
        have hP : va_P g vwCl [(ma 0, .inr (6, [.int (nI (rkm 0 1 0 (fSim (nI k)))), .ref (ma 1), .int (nI ln), .ref (ma 2), .ref (ma 3), .ref (ma 4), .int (nI n), .ref (ma 5), .ref (ma 6), .ref (ma 7), .ref (ma 8), .int (nI sp), .int (nI ou)])), aI cy (ma 1) 120 (mS tx), aI cy (ma 2) 248 (mS σ), aI cy (ma 3) 248 (mS (siS sd σ k)), aI cy (ma 4) 3472 (mS dy), aI cy (ma 5) 496 (mS kp), aZ cy (ma 6) 2 (fun j => bI (fl j)), aI cy (ma 7) 144 (mS (D (siS sd σ k))), aI cy (ma 8) 8 (mS w98)] H := hP
        have hD : va_D A [(ma 0, .inr (6, [.int (nI (rkm 0 1 0 (fSim (nI k)))), .ref (ma 1), .int (nI ln), .ref (ma 2), .ref (ma 3), .ref (ma 4), .int (nI n), .ref (ma 5), .ref (ma 6), .ref (ma 7), .ref (ma 8), .int (nI sp), .int (nI ou)])), aI cy (ma 1) 120 (mS tx), aI cy (ma 2) 248 (mS σ), aI cy (ma 3) 248 (mS (siS sd σ k)), aI cy (ma 4) 3472 (mS dy), aI cy (ma 5) 496 (mS kp), aZ cy (ma 6) 2 (fun j => bI (fl j)), aI cy (ma 7) 144 (mS (D (siS sd σ k))), aI cy (ma 8) 8 (mS w98)] := hD
        show W _ _ _ _ _ _ _ _ _ _ _ _ _ _ _ (F0 mX 122 ls [.int (nI (ct (frd (siS sd σ k)) ((siS sd σ k) 1))), .int (nI 10), .int ((nI 1000) * (((nI ((siS sd σ k) 4)) - (nI (σ 4))) - ((nI ((siS sd σ k) 4)) - (nI (σ 4))) / (nI 1000) * (nI 1000)))])
        refine lv_imul hx hb dX8_simulate_122 ?_
        refine ti (pk_mul 10 (ct (frd (siS sd σ k)) ((siS sd σ k) 1))) ?_
        refine lv_iadd hx hb dX8_simulate_123 ?_
        refine lv_aload_n hx hb dX8_simulate_124 rfl (lv_at hl 0 rfl) ?_
        refine va_get (D := g) (ci := 6) (v := .ref (ma 3)) (C := RX8) (T := TX8) (N := 13) hx hb hts bgX8 hown hK hP 0 rfl rfl 4 (by decide) (hts _ wd5_22) (fun _ h9 => h9) rfl dX8_simulate_125 ?_
        refine rd_call (va_runS (As := [.ref (ma 3)]) (rest := [.int (((nI 1000) * (((nI ((siS sd σ k) 4)) - (nI (σ 4))) - ((nI ((siS sd σ k) 4)) - (nI (σ 4))) / (nI 1000) * (nI 1000))) + (nI (10 * (ct (frd (siS sd σ k)) ((siS sd σ k) 1)))))]) ⟨hx, hb, hml, hown, hts⟩ (c_X8_missing l g cy (ma 3) H.size (siS sd σ k) (bd + 99 * k) hwt) ⟨(cB 1 hts wd24_10 wd1_5 wd24_8 rfl rfl (by decide +kernel) ⟨Nat.le_of_ble_eq_true rfl, Nat.le_of_ble_eq_true rfl⟩), hts _ wd24_9⟩ (ps hK hP hD hS hA hX [3] rfl rfl) rfl rfl hl.1 rfl (lv_room (Nat.le_of_ble_eq_true rfl)) dX8_simulate_128 ⟨Nat.zero_le _, Nat.zero_le _⟩) ?_
        show W _ _ _ _ _ _ _ _ _ _ _ _ _ _ _ (F0 mX 131 ls [.int (nI (ct (msg (siS sd σ k)) ((siS sd σ k) 0))), .int (((nI 1000) * (((nI ((siS sd σ k) 4)) - (nI (σ 4))) - ((nI ((siS sd σ k) 4)) - (nI (σ 4))) / (nI 1000) * (nI 1000))) + (nI (10 * (ct (frd (siS sd σ k)) ((siS sd σ k) 1)))))])
        refine lv_iadd hx hb dX8_simulate_131 ?_
        exact wr_i (siS sd σ k, dy, kp, D (siS sd σ k), w98, sp, ou, rkm 0 1 0 (fSim (nI k))) (by rw [if_pos c_21, nI_clamp (by omega)]; unfold simA; rw [pk_mul 10]) ⟨rfl, ⟨hwf, hn14, hdy, hkp, htx, hln⟩⟩ hP hS hx hb hr dX8_simulate_132 hlk
      · have c_48 := (nc_nle (by omega) (by omega) c_48)
        have hwt := WF_siS (x := sd) hwf k (by omega)
        have hr9 := rx_lt (siX sd (k + 1))
        refine lv_lload hx hb dX8_simulate_51 (lv_at hl 3 rfl) ?_
        refine lv_ldc2 hx hb hown (hts _ wd41_0) dX8_simulate_53 ?_
        refine lv_lmul hx hb dX8_simulate_56 ?_
        refine lv_ldc2 hx hb hown (hts _ wd41_1) dX8_simulate_57 ?_
        refine lv_ladd hx hb dX8_simulate_60 ?_
        refine tl (show (((siX sd k) * (6364136223846793005 : Int64)) + (1442695040888963407 : Int64)) = (siX sd (k + 1)) from rfl) ?_
        refine lv_lstore (lv' := [(4, .long (siX sd (k + 1))), (0, .ref (ma 0)), (1, .long sd), (3, .int (nI m9)), (6, .int (nI k))]) hx hb dX8_simulate_61 hl (by decide) rfl (fun ls hl => ?_)
        refine lv_lload hx hb dX8_simulate_63 (lv_at hl 0 rfl) ?_
        refine lv_bipush (v := (nI 33)) hx hb dX8_simulate_65 (by decide) ?_
        refine lv_lushr (v := ((siX sd (k + 1)).toUInt64 >>> ((nI 33).toInt64.toUInt64 &&& Int64.toUInt64 63)).toInt64) hx hb dX8_simulate_67 rfl ?_
        refine lv_l2i (v := (((siX sd (k + 1)).toUInt64 >>> ((nI 33).toInt64.toUInt64 &&& Int64.toUInt64 63)).toInt64).toInt32) hx hb dX8_simulate_68 rfl ?_
        refine ti (show ((((siX sd (k + 1)).toUInt64 >>> ((nI 33).toInt64.toUInt64 &&& Int64.toUInt64 63)).toInt64).toInt32) = (nI (rx (siX sd (k + 1)))) from (rx_eq _)) ?_
        refine lv_istore (lv' := [(7, .int (nI (rx (siX sd (k + 1))))), (4, .long (siX sd (k + 1))), (0, .ref (ma 0)), (1, .long sd), (3, .int (nI m9)), (6, .int (nI k))]) hx hb dX8_simulate_69 hl (by decide) rfl (fun ls hl => ?_)
        refine lv_aload_n hx hb dX8_simulate_71 rfl (lv_at hl 2 rfl) ?_
        refine lv_aload_n hx hb dX8_simulate_72 rfl (lv_at hl 2 rfl) ?_
        refine va_get (D := g) (ci := 6) (v := .ref (ma 3)) (C := RX8) (T := TX8) (N := 13) hx hb hts bgX8 hown hK hP 0 rfl rfl 4 (by decide) (hts _ wd5_22) (fun _ h9 => h9) rfl dX8_simulate_73 ?_
        refine lv_iload hx hb dX8_simulate_76 (lv_at hl 0 rfl) ?_
        refine lv_bipush (v := (nI 8)) hx hb dX8_simulate_78 (by decide) ?_
        refine lv_irem hx hb dX8_simulate_80 (nI_ne0 (by omega) (by omega)) ?_
        refine ti (pk_rem (a := (rx (siX sd (k + 1)))) (d := 8) (by omega) (by omega) (by omega)) ?_
        refine lv_iload hx hb dX8_simulate_81 (lv_at hl 0 rfl) ?_
        refine lv_bipush (v := (nI 8)) hx hb dX8_simulate_83 (by decide) ?_
        refine lv_idiv hx hb dX8_simulate_85 (nI_ne0 (by omega) (by omega)) ?_
        refine ti (pk_div (a := (rx (siX sd (k + 1)))) (d := 8) (by omega) (by omega) (by omega)) ?_
        refine wr_call (wc := [(ma 0, .inr (6, [.int (nI (rkm 0 1 0 (fSim (nI m9)))), .ref (ma 1), .int (nI ln), .ref (ma 2), .ref (ma 3), .ref (ma 4), .int (nI n), .ref (ma 5), .ref (ma 6), .ref (ma 7), .ref (ma 8), .int (nI sp), .int (nI ou)])), aI cy (ma 7) 144 (mS wy8), aI cy (ma 8) 8 (mS w98), aI cy (ma 3) 248 (mS (siS sd σ k))]) (va_runV (As := [.ref (ma 3), .int (nI ((rx (siX sd (k + 1))) % 8)), .int (nI ((rx (siX sd (k + 1))) / 8))]) (rest := []) ⟨hx, hb, hml, hown, hts⟩ (c_X8_turnOf l g cy (ma 0) (ma 1) (ma 2) (ma 3) (ma 4) (ma 5) (ma 6) (ma 7) (ma 8) (ma 3) H.size (rkm 0 1 0 (fSim (nI m9))) ln n sp ou wy8 w98 (siS sd σ k) (bd + 99 * k) ((rx (siX sd (k + 1))) % 8) ((rx (siX sd (k + 1))) / 8) hwt (by omega) (by omega)) ⟨(cB 3 hts wd41_5 wd1_5 wd41_2 rfl rfl (by decide +kernel) ⟨Nat.le_of_ble_eq_true rfl, Nat.le_of_ble_eq_true rfl⟩), hts _ wd41_3, hts _ wd41_4⟩ (pv hK hP hD hS hA hX [0, 7, 8, 3] rfl rfl 6 0 rfl rfl) rfl rfl hl.1 rfl (lv_room (Nat.le_of_ble_eq_true rfl)) dX8_simulate_86 ⟨Nat.zero_le _, Nat.zero_le _⟩) hP hD hS hA [0, 7, 8, 3] rfl rfl (fun _ => (rfl : ([ma 0, ma 7, ma 8, ma 3] : List Nat) = [ma 0, ma 7, ma 8, ma 3])) ?_
        rintro ⟨wy1_86, w91_86⟩ H locs - hP hD hS
        have hP : va_P g vwCl [(ma 0, .inr (6, [.int (nI (rkm 0 1 0 (fSim (nI m9)))), .ref (ma 1), .int (nI ln), .ref (ma 2), .ref (ma 3), .ref (ma 4), .int (nI n), .ref (ma 5), .ref (ma 6), .ref (ma 7), .ref (ma 8), .int (nI sp), .int (nI ou)])), aI cy (ma 1) 120 (mS tx), aI cy (ma 2) 248 (mS σ), aI cy (ma 3) 248 (mS (plR (8 * ((rx (siX sd (k + 1))) / 8) + ((rx (siX sd (k + 1))) % 8)) (siS sd σ k))), aI cy (ma 4) 3472 (mS dy), aI cy (ma 5) 496 (mS kp), aZ cy (ma 6) 2 (fun j => bI (fl j)), aI cy (ma 7) 144 (mS wy1_86), aI cy (ma 8) 8 (mS w91_86)] H := hP
        have hD : va_D A [(ma 0, .inr (6, [.int (nI (rkm 0 1 0 (fSim (nI m9)))), .ref (ma 1), .int (nI ln), .ref (ma 2), .ref (ma 3), .ref (ma 4), .int (nI n), .ref (ma 5), .ref (ma 6), .ref (ma 7), .ref (ma 8), .int (nI sp), .int (nI ou)])), aI cy (ma 1) 120 (mS tx), aI cy (ma 2) 248 (mS σ), aI cy (ma 3) 248 (mS (plR (8 * ((rx (siX sd (k + 1))) / 8) + ((rx (siX sd (k + 1))) % 8)) (siS sd σ k))), aI cy (ma 4) 3472 (mS dy), aI cy (ma 5) 496 (mS kp), aZ cy (ma 6) 2 (fun j => bI (fl j)), aI cy (ma 7) 144 (mS wy1_86), aI cy (ma 8) 8 (mS w91_86)] := hD
        show W _ _ _ _ _ _ _ _ _ _ _ _ _ _ _ (F0 mX 89 ls [])
        rw [show (mS (plR (8 * ((rx (siX sd (k + 1))) / 8) + ((rx (siX sd (k + 1))) % 8)) (siS sd σ k))) = (mS (siS sd σ (k + 1))) from (congrArg mS (by rw [Nat.div_add_mod]; rfl))] at hP hD
        refine lv_iinc (v := (nI (k + 1))) (lv' := [(6, .int (nI (k + 1))), (7, .int (nI (rx (siX sd (k + 1))))), (4, .long (siX sd (k + 1))), (0, .ref (ma 0)), (1, .long sd), (3, .int (nI m9))]) hx hb dX8_simulate_89 hl (k := 5) rfl (nI_add k 1) (by decide) rfl (fun ls hl => ?_)
        refine lv_goto (tgt := 45) hx hb dX8_simulate_92 (by decide) ?_
        exact ih45 (k + 1, wy1_86, w91_86) H locs ls ⟨hP, hD, hS, lv_sub hl [3, 4, 5, 2, 0] rfl, (by dsimp only; omega)⟩ (by first | omega | (dsimp only; omega))
    · have c_21 := (bI_ne0.mp c_21)
      have c_21 : ¬ fSim vm = 0 := fun e => by rw [e] at c_21; exact absurd c_21 (by decide)
      refine lv_iconst (v := (nI 0)) hx hb dX8_simulate_24 (by decide) ?_
      exact wr_i (tr, dy, kp, wy, hp, sp, ou, rkm 0 1 0 (fSim vm)) (by rw [if_neg c_21]; rfl) ⟨rfl, (by skip; exact ⟨hwf, hn14, hdy, hkp, htx, hln⟩)⟩ (by skip; exact hP) hS hx hb hr dX8_simulate_25 hlk
  · skip
    refine lv_iload_n hx hb dX8_simulate_1 rfl (lv_at hl 2 rfl) ?_
    refine lv_i2l (v := vm.toInt64) hx hb dX8_simulate_2 rfl ?_
    refine lv_lconst (v := 1) hx hb dX8_simulate_3 rfl ?_
    refine lv_ldc2 hx hb hown (hts _ wd40_23) dX8_simulate_4 ?_
    refine rd_call (va_runS (As := [.long vm.toInt64, .long (1 : Int64), .long (60 : Int64)]) (rest := [.ref (ma 0)]) ⟨hx, hb, hml, hown, hts⟩ (c_X8_in l vm.toInt64 (1 : Int64) (60 : Int64) ) ⟨(cB 3 hts wd7_17 wd1_5 wd7_15 rfl rfl (by decide +kernel) ⟨Nat.le_of_ble_eq_true rfl, Nat.le_of_ble_eq_true rfl⟩), hts _ wd7_16⟩ p0 rfl rfl hl.1 rfl (lv_room (Nat.le_of_ble_eq_true rfl)) dX8_simulate_7 ⟨Nat.zero_le _, Nat.zero_le _⟩) ?_
    show W _ _ _ _ _ _ _ _ _ _ _ _ _ _ _ (F0 mX 10 ls [.int (bI (inL vm.toInt64 (1 : Int64) (60 : Int64))), .ref (ma 0)])
    refine ti (show (bI (inL vm.toInt64 (1 : Int64) (60 : Int64))) = (bI (inR vm (nI 1) (nI 60))) from (congrArg bI (inL_c (a := 1) (b := 60) (by decide) (by decide)))) ?_
    refine lv_if_eq (tgt := 17) hx hb dX8_simulate_10 (by decide) (fun c_10 => ?_) (fun c_10 => ?_)
    · have c_10 := (bI_eq0.mp c_10)
      refine lv_iconst (v := (nI 1)) hx hb dX8_simulate_17 (by decide) ?_
      exact jn18 _ (congrArg nI (by simp [rkm, fSim, c_10]))
    · have c_10 := (bI_ne0.mp c_10)
      refine lv_iconst (v := (nI 0)) hx hb dX8_simulate_13 (by decide) ?_
      refine lv_goto (tgt := 18) hx hb dX8_simulate_14 (by decide) ?_
      exact jn18 _ (congrArg nI (by simp [rkm, fSim, c_10]))
