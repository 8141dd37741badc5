set_option maxHeartbeats 4000000 in
set_option maxRecDepth 100000 in
theorem c_X0_isMissing (l : Launch) (g : va_G) (cy : Nat → ClassId) (sz : Nat) (a : Nat → Nat) (σ : Nat → Nat) (b : Nat → Nat → Int32) (bd : Nat) (d : Nat) (hwf : WF bd σ) (hbr : BR σ b) (hd9 : d < 2 ^ 31) : Met l yX0_isMissing (Cond.code yX0_isMissing cX0_isMissing 2 (some .boolean) :: wsL_law) ({ frames := 1, cells := 0, slots := 0, locals := 23 } : Room) (va_Pc [.ref (a 0), .int (nI d)] (pr g cy [(a 0, .inr (0, [.ref (a 1), .ref (a 4), .ref (a 6), .ref (a 8), .ref (a 9), .int (nI (σ 2)), .int (nI (σ 3)), .int (nI (σ 4)), .int (nI (σ 5)), .int (nI (σ 6)), .int (nI (σ 7))])), (a 1, .inr (2, [.ref (a 2), .ref (a 3), .int (nI (cmk σ))])), aI cy (a 2) 144 (wv σ), aI cy (a 3) 12 (b 1), (a 4, .inr (3, [.int (nI 6), .int (nI 11), .ref (a 5), .int (nI (σ 0))])), aI cy (a 5) 66 (b 2), (a 6, .inr (3, [.int (nI 20), .int (nI 6), .ref (a 7), .int (nI (σ 1))])), aI cy (a 7) 120 (b 3), aI cy (a 8) 8 (mS (pu σ)), aI cy (a 9) 6 (b 5)] sz)) (rd_Q (some (.int (bI (decide (d < σ 0) && msg σ d))))) 0 0 (nF) := by
  refine mt_of (cc := cX0_isMissing) (maxL := 2) (ret := (some .boolean)) (by decide +kernel) (Nat.le_of_ble_eq_true rfl) ?_
  intro pX eX s mX below meth cX ls A hx hb hr hml hown hts hlk hin hsz hAe hA hP hD hK hX hl
  have hl : lv_has ls 2 [(0, .ref (a 0)), (1, .int (nI d))] := hl
  have hS : va_S A s.heap s.heap [] := va_S.rf
  have hn0 := hwf.n0
  have hn1 := hwf.n1
  have hh2 := hwf.h2
  refine lv_aload_n hx hb dX0_isMissing_0 rfl (lv_at hl 0 rfl) ?_
  refine va_get (D := g) (ci := 0) (v := .ref (a 4)) (C := RX0) (T := TX0) (N := 11) hx hb hts bgX0 hown hK hP 0 rfl rfl 1 (by decide) (hts _ wd2_12) (fun _ h9 => h9) rfl dX0_isMissing_1 ?_
  refine lv_iload_n hx hb dX0_isMissing_4 rfl (lv_at hl 1 rfl) ?_
  refine lv_iconst (v := (nI 5)) hx hb dX0_isMissing_5 (by decide) ?_
  refine rd_call (va_runV (As := [.int (nI d), .int (nI 5)]) (rest := []) ⟨hx, hb, hml, hown, hts⟩ (c_X3_get l g cy (a 4) (a 5) s.heap.size 6 11 66 (b 2) (σ 0) (nI d) 5 (by omega) (by omega) (by omega) (by omega) (by omega) (by omega)) ⟨(cB 2 hts wd13_23 wd2_11 wd13_20 rfl rfl (by decide +kernel) ⟨Nat.le_of_ble_eq_true rfl, Nat.le_of_ble_eq_true rfl⟩), hts _ wd13_21, hts _ wd13_22⟩ (pv hK hP hD hS hA hX [4, 5] rfl rfl 3 4 rfl rfl) rfl rfl hl.1 rfl (lv_room (Nat.le_of_ble_eq_true rfl)) dX0_isMissing_6 ⟨Nat.zero_le _, Nat.zero_le _⟩) ?_
  show W _ _ _ _ _ _ _ _ _ _ _ _ _ _ _ (F0 mX 9 ls [.int (getR (b 2) 11 (σ 0) (nI d) 5)])
  refine ti (show (getR (b 2) 11 (σ 0) (nI d) 5) = (bI (decide (d < σ 0) && msg σ d)) from (hbr.gmx hn0 hd9)) ?_
  refine lv_iconst (v := (nI 1)) hx hb dX0_isMissing_9 (by decide) ?_
  refine ti (show (nI 1) = (bI true) from rfl) ?_
  refine lv_icmp_ne (tgt := 17) hx hb dX0_isMissing_10 (by decide) (fun c_10 => ?_) (fun c_10 => ?_)
  · skip
    have c_10 : (decide (d < σ 0) && msg σ d) = false := (by cases h9 : (decide (d < σ 0) && msg σ d) <;> simp_all)
    refine lv_iconst (v := (nI 0)) hx hb dX0_isMissing_17 (by decide) ?_
    exact rd_z (by first | (rw [c_10]; rfl)) hx hb hr dX0_isMissing_18 hlk
  · skip
    have c_10 : (decide (d < σ 0) && msg σ d) = true := (by cases h9 : (decide (d < σ 0) && msg σ d) <;> simp_all [bI])
    refine lv_iconst (v := (nI 1)) hx hb dX0_isMissing_13 (by decide) ?_
    refine lv_goto (tgt := 18) hx hb dX0_isMissing_14 (by decide) ?_
    exact rd_z (by first | (rw [c_10]; rfl)) hx hb hr dX0_isMissing_18 hlk
set_option maxHeartbeats 4000000 in
set_option maxRecDepth 100000 in
theorem c_X0_missingDogs (l : Launch) (g : va_G) (cy : Nat → ClassId) (sz : Nat) (a : Nat → Nat) (σ : Nat → Nat) (b : Nat → Nat → Int32) (bd : Nat) (hwf : WF bd σ) (hbr : BR σ b) : Met l yX0_missingDogs (Cond.code yX0_missingDogs cX0_missingDogs 3 (some .int) :: wsL_law) ({ frames := 1, cells := 0, slots := 0, locals := 23 } : Room) (va_Pc [.ref (a 0)] (pr g cy [(a 0, .inr (0, [.ref (a 1), .ref (a 4), .ref (a 6), .ref (a 8), .ref (a 9), .int (nI (σ 2)), .int (nI (σ 3)), .int (nI (σ 4)), .int (nI (σ 5)), .int (nI (σ 6)), .int (nI (σ 7))])), (a 1, .inr (2, [.ref (a 2), .ref (a 3), .int (nI (cmk σ))])), aI cy (a 2) 144 (wv σ), aI cy (a 3) 12 (b 1), (a 4, .inr (3, [.int (nI 6), .int (nI 11), .ref (a 5), .int (nI (σ 0))])), aI cy (a 5) 66 (b 2), (a 6, .inr (3, [.int (nI 20), .int (nI 6), .ref (a 7), .int (nI (σ 1))])), aI cy (a 7) 120 (b 3), aI cy (a 8) 8 (mS (pu σ)), aI cy (a 9) 6 (b 5)] sz)) (rd_Q (some (.int (nI (ct (msg σ) (σ 0)))))) 0 0 (nF) := by
  refine mt_of (cc := cX0_missingDogs) (maxL := 3) (ret := (some .int)) (by decide +kernel) (Nat.le_of_ble_eq_true rfl) ?_
  intro pX eX s mX below meth cX ls A hx hb hr hml hown hts hlk hin hsz hAe hA hP hD hK hX hl
  have hl : lv_has ls 3 [(0, .ref (a 0))] := hl
  have hS : va_S A s.heap s.heap [] := va_S.rf
  have hn0 := hwf.n0
  have hn1 := hwf.n1
  have hh2 := hwf.h2
  refine lv_iconst (v := (nI 0)) hx hb dX0_missingDogs_0 (by decide) ?_
  refine lv_istore_n (lv' := [(1, .int (nI 0)), (0, .ref (a 0))]) hx hb dX0_missingDogs_1 rfl hl (by decide) rfl (fun ls hl => ?_)
  refine lv_iconst (v := (nI 0)) hx hb dX0_missingDogs_2 (by decide) ?_
  refine lv_istore_n (lv' := [(2, .int (nI 0)), (1, .int (nI 0)), (0, .ref (a 0))]) hx hb dX0_missingDogs_3 rfl hl (by decide) rfl (fun ls hl => ?_)
  have hl : lv_has ls 3 [(2, .int (nI 0)), (1, .int (nI (ct (msg σ) 0))), (0, .ref (a 0))] := by rw [← show (nI 0) = (nI (ct (msg σ) 0)) from rfl]; exact hl
  refine lp_rd (σ := (Nat)) (fun x9 ls9 => lv_has ls9 3 [(0, .ref (a 0)), (1, .int (nI (ct (msg σ) x9))), (2, .int (nI x9))] ∧ (x9 ≤ σ 0)) (fun x9 => σ 0 - x9) (0) ⟨lv_sub hl [2, 1, 0] rfl, (by omega)⟩ ?_
  rintro i ls ⟨hl, hi⟩ ih4
  try dsimp only at hl hi ih4
  refine lv_iload_n hx hb dX0_missingDogs_4 rfl (lv_at hl 2 rfl) ?_
  refine lv_aload_n hx hb dX0_missingDogs_5 rfl (lv_at hl 0 rfl) ?_
  refine va_get (D := g) (ci := 0) (v := .ref (a 4)) (C := RX0) (T := TX0) (N := 11) hx hb hts bgX0 hown hK hP 0 rfl rfl 1 (by decide) (hts _ wd2_12) (fun _ h9 => h9) rfl dX0_missingDogs_6 ?_
  refine rd_call (va_runV (As := []) (rest := [.int (nI i)]) ⟨hx, hb, hml, hown, hts⟩ (c_X3_count l g cy (a 4) (a 5) s.heap.size 6 11 66 (b 2) (σ 0) ) ⟨(cB 0 hts wd13_15 wd2_11 wd13_12 rfl rfl (by decide +kernel) ⟨Nat.le_of_ble_eq_true rfl, Nat.le_of_ble_eq_true rfl⟩), hts _ wd13_13, hts _ wd13_14⟩ (pv hK hP hD hS hA hX [4, 5] rfl rfl 3 4 rfl rfl) rfl rfl hl.1 rfl (lv_room (Nat.le_of_ble_eq_true rfl)) dX0_missingDogs_9 ⟨Nat.zero_le _, Nat.zero_le _⟩) ?_
  show W _ _ _ _ _ _ _ _ _ _ _ _ _ _ _ (F0 mX 12 ls [.int (nI (σ 0)), .int (nI i)])
  refine lv_icmp_ge (tgt := 33) hx hb dX0_missingDogs_12 (by decide) (fun c_12 => ?_) (fun c_12 => ?_)
  · have c_12 := (nc_le (by omega) (by omega) c_12)
    have e9 : i = σ 0 := by omega
    subst e9
    refine lv_iload_n hx hb dX0_missingDogs_33 rfl (lv_at hl 1 rfl) ?_
    exact rd_i (congrArg nI (by simp [c_12])) hx hb hr dX0_missingDogs_34 hlk
  · have c_12 := (nc_nle (by omega) (by omega) c_12)
    refine lv_iload_n hx hb dX0_missingDogs_15 rfl (lv_at hl 1 rfl) ?_
    refine lv_aload_n hx hb dX0_missingDogs_16 rfl (lv_at hl 0 rfl) ?_
    refine va_get (D := g) (ci := 0) (v := .ref (a 4)) (C := RX0) (T := TX0) (N := 11) hx hb hts bgX0 hown hK hP 0 rfl rfl 1 (by decide) (hts _ wd2_12) (fun _ h9 => h9) rfl dX0_missingDogs_17 ?_
    refine lv_iload_n hx hb dX0_missingDogs_20 rfl (lv_at hl 2 rfl) ?_
    refine lv_iconst (v := (nI 5)) hx hb dX0_missingDogs_21 (by decide) ?_
    refine rd_call (va_runV (As := [.int (nI i), .int (nI 5)]) (rest := [.int (nI (ct (msg σ) i))]) ⟨hx, hb, hml, hown, hts⟩ (c_X3_get l g cy (a 4) (a 5) s.heap.size 6 11 66 (b 2) (σ 0) (nI i) 5 (by omega) (by omega) (by omega) (by omega) (by omega) (by omega)) ⟨(cB 2 hts wd13_23 wd2_11 wd13_20 rfl rfl (by decide +kernel) ⟨Nat.le_of_ble_eq_true rfl, Nat.le_of_ble_eq_true rfl⟩), hts _ wd13_21, hts _ wd13_22⟩ (pv hK hP hD hS hA hX [4, 5] rfl rfl 3 4 rfl rfl) rfl rfl hl.1 rfl (lv_room (Nat.le_of_ble_eq_true rfl)) dX0_missingDogs_22 ⟨Nat.zero_le _, Nat.zero_le _⟩) ?_
    refine ti (show getR (b 2) 11 (σ 0) (nI i) 5 = (bI (msg σ i)) from (hbr.gm hn0 (by omega))) ?_
    refine ti (show (bI (msg σ i)) = (nI (if msg σ i then 1 else 0)) from (bI_n _)) ?_
    refine lv_iadd hx hb dX0_missingDogs_25 ?_
    refine ti (nI_add (ct (msg σ) i) (if msg σ i then 1 else 0)) ?_
    refine lv_istore_n (lv' := [(1, .int (nI ((ct (msg σ) i) + (if msg σ i then 1 else 0)))), (0, .ref (a 0)), (2, .int (nI i))]) hx hb dX0_missingDogs_26 rfl hl (by decide) rfl (fun ls hl => ?_)
    have hl : lv_has ls 3 [(1, .int (nI (ct (msg σ) (i + 1)))), (0, .ref (a 0)), (2, .int (nI i))] := by rw [← show (nI ((ct (msg σ) i) + (if msg σ i then 1 else 0))) = (nI (ct (msg σ) (i + 1))) from rfl]; exact hl
    refine lv_iinc (v := (nI (i + 1))) (lv' := [(2, .int (nI (i + 1))), (1, .int (nI (ct (msg σ) (i + 1)))), (0, .ref (a 0))]) hx hb dX0_missingDogs_27 hl (k := 2) rfl (nI_add i 1) (by decide) rfl (fun ls hl => ?_)
    refine lv_goto (tgt := 4) hx hb dX0_missingDogs_30 (by decide) ?_
    exact ih4 (i + 1) ls ⟨lv_sub hl [2, 1, 0] rfl, (by omega)⟩ (by first | omega | (dsimp only; omega))
set_option maxHeartbeats 4000000 in
set_option maxRecDepth 100000 in
theorem c_X0_missingRewards (l : Launch) (g : va_G) (cy : Nat → ClassId) (sz : Nat) (a : Nat → Nat) (σ : Nat → Nat) (b : Nat → Nat → Int32) (bd : Nat) (hwf : WF bd σ) (hbr : BR σ b) : Met l yX0_missingRewards (Cond.code yX0_missingRewards cX0_missingRewards 3 (some .int) :: wsL_law) ({ frames := 2, cells := 0, slots := 0, locals := 44 } : Room) (va_Pc [.ref (a 0)] (pr g cy [(a 0, .inr (0, [.ref (a 1), .ref (a 4), .ref (a 6), .ref (a 8), .ref (a 9), .int (nI (σ 2)), .int (nI (σ 3)), .int (nI (σ 4)), .int (nI (σ 5)), .int (nI (σ 6)), .int (nI (σ 7))])), (a 1, .inr (2, [.ref (a 2), .ref (a 3), .int (nI (cmk σ))])), aI cy (a 2) 144 (wv σ), aI cy (a 3) 12 (b 1), (a 4, .inr (3, [.int (nI 6), .int (nI 11), .ref (a 5), .int (nI (σ 0))])), aI cy (a 5) 66 (b 2), (a 6, .inr (3, [.int (nI 20), .int (nI 6), .ref (a 7), .int (nI (σ 1))])), aI cy (a 7) 120 (b 3), aI cy (a 8) 8 (mS (pu σ)), aI cy (a 9) 6 (b 5)] sz)) (rd_Q (some (.int (nI (sm (fun d => if msg σ d then dg σ d 4 else 0) (σ 0)))))) 0 0 (nF) := by
  refine mt_of (cc := cX0_missingRewards) (maxL := 3) (ret := (some .int)) (by decide +kernel) (Nat.le_of_ble_eq_true rfl) ?_
  intro pX eX s mX below meth cX ls A hx hb hr hml hown hts hlk hin hsz hAe hA hP hD hK hX hl
  have hl : lv_has ls 3 [(0, .ref (a 0))] := hl
  have hS : va_S A s.heap s.heap [] := va_S.rf
  have hn0 := hwf.n0
  have hn1 := hwf.n1
  have hh2 := hwf.h2
  refine lv_iconst (v := (nI 0)) hx hb dX0_missingRewards_0 (by decide) ?_
  refine lv_istore_n (lv' := [(1, .int (nI 0)), (0, .ref (a 0))]) hx hb dX0_missingRewards_1 rfl hl (by decide) rfl (fun ls hl => ?_)
  refine lv_iconst (v := (nI 0)) hx hb dX0_missingRewards_2 (by decide) ?_
  refine lv_istore_n (lv' := [(2, .int (nI 0)), (1, .int (nI 0)), (0, .ref (a 0))]) hx hb dX0_missingRewards_3 rfl hl (by decide) rfl (fun ls hl => ?_)
  have hl : lv_has ls 3 [(2, .int (nI 0)), (1, .int (nI (sm (fun d => if msg σ d then dg σ d 4 else 0) 0))), (0, .ref (a 0))] := by rw [← show (nI 0) = (nI (sm (fun d => if msg σ d then dg σ d 4 else 0) 0)) from rfl]; exact hl
  refine lp_rd (σ := (Nat)) (fun x9 ls9 => lv_has ls9 3 [(0, .ref (a 0)), (1, .int (nI (sm (fun d => if msg σ d then dg σ d 4 else 0) x9))), (2, .int (nI x9))] ∧ (x9 ≤ σ 0)) (fun x9 => σ 0 - x9) (0) ⟨lv_sub hl [2, 1, 0] rfl, (by omega)⟩ ?_
  rintro i ls ⟨hl, hi⟩ ih4
  try dsimp only at hl hi ih4
  refine lv_iload_n hx hb dX0_missingRewards_4 rfl (lv_at hl 2 rfl) ?_
  refine lv_aload_n hx hb dX0_missingRewards_5 rfl (lv_at hl 0 rfl) ?_
  refine va_get (D := g) (ci := 0) (v := .ref (a 4)) (C := RX0) (T := TX0) (N := 11) hx hb hts bgX0 hown hK hP 0 rfl rfl 1 (by decide) (hts _ wd2_12) (fun _ h9 => h9) rfl dX0_missingRewards_6 ?_
  refine rd_call (va_runV (As := []) (rest := [.int (nI i)]) ⟨hx, hb, hml, hown, hts⟩ (c_X3_count l g cy (a 4) (a 5) s.heap.size 6 11 66 (b 2) (σ 0) ) ⟨(cB 0 hts wd13_15 wd2_11 wd13_12 rfl rfl (by decide +kernel) ⟨Nat.le_of_ble_eq_true rfl, Nat.le_of_ble_eq_true rfl⟩), hts _ wd13_13, hts _ wd13_14⟩ (pv hK hP hD hS hA hX [4, 5] rfl rfl 3 4 rfl rfl) rfl rfl hl.1 rfl (lv_room (Nat.le_of_ble_eq_true rfl)) dX0_missingRewards_9 ⟨Nat.zero_le _, Nat.zero_le _⟩) ?_
  show W _ _ _ _ _ _ _ _ _ _ _ _ _ _ _ (F0 mX 12 ls [.int (nI (σ 0)), .int (nI i)])
  refine lv_icmp_ge (tgt := 45) hx hb dX0_missingRewards_12 (by decide) (fun c_12 => ?_) (fun c_12 => ?_)
  · have c_12 := (nc_le (by omega) (by omega) c_12)
    have e9 : i = σ 0 := by omega
    subst e9
    refine lv_iload_n hx hb dX0_missingRewards_45 rfl (lv_at hl 1 rfl) ?_
    exact rd_i (congrArg nI (by simp [c_12])) hx hb hr dX0_missingRewards_46 hlk
  · have c_12 := (nc_nle (by omega) (by omega) c_12)
    refine lv_iload_n hx hb dX0_missingRewards_15 rfl (lv_at hl 1 rfl) ?_
    refine lv_aload_n hx hb dX0_missingRewards_16 rfl (lv_at hl 0 rfl) ?_
    refine lv_iload_n hx hb dX0_missingRewards_17 rfl (lv_at hl 2 rfl) ?_
    refine rd_call (va_runV (As := [.int (nI i)]) (rest := [.int (nI (sm (fun d => if msg σ d then dg σ d 4 else 0) i))]) ⟨hx, hb, hml, hown, hts⟩ (c_X0_isMissing l g cy  s.heap.size a σ b bd i hwf hbr (by omega)) ⟨(cB 1 hts wd13_19 wd1_12 wd13_16 rfl rfl (by decide +kernel) ⟨Nat.le_of_ble_eq_true rfl, Nat.le_of_ble_eq_true rfl⟩), hts _ wd13_17, hts _ wd13_18⟩ (pv hK hP hD hS hA hX [0, 1, 2, 3, 4, 5, 6, 7, 8, 9] rfl rfl 0 0 rfl rfl) rfl rfl hl.1 rfl (lv_room (Nat.le_of_ble_eq_true rfl)) dX0_missingRewards_18 ⟨Nat.zero_le _, Nat.zero_le _⟩) ?_
    show W _ _ _ _ _ _ _ _ _ _ _ _ _ _ _ (F0 mX 21 ls [.int (bI (decide (i < σ 0) && msg σ i)), .int (nI (sm (fun d => if msg σ d then dg σ d 4 else 0) i))])
    refine ti (show (bI (decide (i < σ 0) && msg σ i)) = (bI (msg σ i)) from (by simp [show i < σ 0 from (by omega)])) ?_
    refine lv_if_eq (tgt := 36) hx hb dX0_missingRewards_21 (by decide) (fun c_21 => ?_) (fun c_21 => ?_)
    · have c_21 := (bI_eq0.mp c_21)
      refine lv_iconst (v := (nI 0)) hx hb dX0_missingRewards_36 (by decide) ?_
      refine lv_iadd hx hb dX0_missingRewards_37 ?_
      refine ti (nI_add (sm (fun d => if msg σ d then dg σ d 4 else 0) i) 0) ?_
      refine lv_istore_n (lv' := [(1, .int (nI ((sm (fun d => if msg σ d then dg σ d 4 else 0) i) + 0))), (0, .ref (a 0)), (2, .int (nI i))]) hx hb dX0_missingRewards_38 rfl hl (by decide) rfl (fun ls hl => ?_)
      have hl : lv_has ls 3 [(1, .int (nI (sm (fun d => if msg σ d then dg σ d 4 else 0) (i + 1)))), (0, .ref (a 0)), (2, .int (nI i))] := by rw [← show (nI ((sm (fun d => if msg σ d then dg σ d 4 else 0) i) + 0)) = (nI (sm (fun d => if msg σ d then dg σ d 4 else 0) (i + 1))) from (congrArg nI (by simp [sm, c_21]))]; exact hl
      refine lv_iinc (v := (nI (i + 1))) (lv' := [(2, .int (nI (i + 1))), (1, .int (nI (sm (fun d => if msg σ d then dg σ d 4 else 0) (i + 1)))), (0, .ref (a 0))]) hx hb dX0_missingRewards_39 hl (k := 2) rfl (nI_add i 1) (by decide) rfl (fun ls hl => ?_)
      refine lv_goto (tgt := 4) hx hb dX0_missingRewards_42 (by decide) ?_
      exact ih4 (i + 1) ls ⟨lv_sub hl [2, 1, 0] rfl, (by omega)⟩ (by first | omega | (dsimp only; omega))
    · have c_21 := (bI_ne0.mp c_21)
      refine lv_aload_n hx hb dX0_missingRewards_24 rfl (lv_at hl 0 rfl) ?_
      refine va_get (D := g) (ci := 0) (v := .ref (a 4)) (C := RX0) (T := TX0) (N := 11) hx hb hts bgX0 hown hK hP 0 rfl rfl 1 (by decide) (hts _ wd2_12) (fun _ h9 => h9) rfl dX0_missingRewards_25 ?_
      refine lv_iload_n hx hb dX0_missingRewards_28 rfl (lv_at hl 2 rfl) ?_
      refine lv_iconst (v := (nI 4)) hx hb dX0_missingRewards_29 (by decide) ?_
      refine rd_call (va_runV (As := [.int (nI i), .int (nI 4)]) (rest := [.int (nI (sm (fun d => if msg σ d then dg σ d 4 else 0) i))]) ⟨hx, hb, hml, hown, hts⟩ (c_X3_get l g cy (a 4) (a 5) s.heap.size 6 11 66 (b 2) (σ 0) (nI i) 4 (by omega) (by omega) (by omega) (by omega) (by omega) (by omega)) ⟨(cB 2 hts wd13_23 wd2_11 wd13_20 rfl rfl (by decide +kernel) ⟨Nat.le_of_ble_eq_true rfl, Nat.le_of_ble_eq_true rfl⟩), hts _ wd13_21, hts _ wd13_22⟩ (pv hK hP hD hS hA hX [4, 5] rfl rfl 3 4 rfl rfl) rfl rfl hl.1 rfl (lv_room (Nat.le_of_ble_eq_true rfl)) dX0_missingRewards_30 ⟨Nat.zero_le _, Nat.zero_le _⟩) ?_
      refine ti (show getR (b 2) 11 (σ 0) (nI i) 4 = (nI (dg σ i 4)) from (hbr.gd hn0 (by omega) (by decide))) ?_
      refine lv_goto (tgt := 37) hx hb dX0_missingRewards_33 (by decide) ?_
      refine lv_iadd hx hb dX0_missingRewards_37 ?_
      refine ti (nI_add (sm (fun d => if msg σ d then dg σ d 4 else 0) i) (dg σ i 4)) ?_
      refine lv_istore_n (lv' := [(1, .int (nI ((sm (fun d => if msg σ d then dg σ d 4 else 0) i) + (dg σ i 4)))), (0, .ref (a 0)), (2, .int (nI i))]) hx hb dX0_missingRewards_38 rfl hl (by decide) rfl (fun ls hl => ?_)
      have hl : lv_has ls 3 [(1, .int (nI (sm (fun d => if msg σ d then dg σ d 4 else 0) (i + 1)))), (0, .ref (a 0)), (2, .int (nI i))] := by rw [← show (nI ((sm (fun d => if msg σ d then dg σ d 4 else 0) i) + (dg σ i 4))) = (nI (sm (fun d => if msg σ d then dg σ d 4 else 0) (i + 1))) from (congrArg nI (by simp [sm, c_21]))]; exact hl
      refine lv_iinc (v := (nI (i + 1))) (lv' := [(2, .int (nI (i + 1))), (1, .int (nI (sm (fun d => if msg σ d then dg σ d 4 else 0) (i + 1)))), (0, .ref (a 0))]) hx hb dX0_missingRewards_39 hl (k := 2) rfl (nI_add i 1) (by decide) rfl (fun ls hl => ?_)
      refine lv_goto (tgt := 4) hx hb dX0_missingRewards_42 (by decide) ?_
      exact ih4 (i + 1) ls ⟨lv_sub hl [2, 1, 0] rfl, (by omega)⟩ (by first | omega | (dsimp only; omega))
set_option maxHeartbeats 4000000 in
set_option maxRecDepth 100000 in
theorem c_X0_unlikeMarks (l : Launch) (g : va_G) (cy : Nat → ClassId) (sz : Nat) (a : Nat → Nat) (σ : Nat → Nat) (b : Nat → Nat → Int32) (bd : Nat) (d : Nat) (m9 : Nat) (hwf : WF bd σ) (hbr : BR σ b) (hd : d < σ 0) (hm9 : m9 < 256) : Met l yX0_unlikeMarks (Cond.code yX0_unlikeMarks cX0_unlikeMarks 3 (some .int) :: wsL_law) ({ frames := 1, cells := 0, slots := 0, locals := 23 } : Room) (va_Pc [.ref (a 0), .int (nI d), .int (nI m9)] (pr g cy [(a 0, .inr (0, [.ref (a 1), .ref (a 4), .ref (a 6), .ref (a 8), .ref (a 9), .int (nI (σ 2)), .int (nI (σ 3)), .int (nI (σ 4)), .int (nI (σ 5)), .int (nI (σ 6)), .int (nI (σ 7))])), (a 1, .inr (2, [.ref (a 2), .ref (a 3), .int (nI (cmk σ))])), aI cy (a 2) 144 (wv σ), aI cy (a 3) 12 (b 1), (a 4, .inr (3, [.int (nI 6), .int (nI 11), .ref (a 5), .int (nI (σ 0))])), aI cy (a 5) 66 (b 2), (a 6, .inr (3, [.int (nI 20), .int (nI 6), .ref (a 7), .int (nI (σ 1))])), aI cy (a 7) 120 (b 3), aI cy (a 8) 8 (mS (pu σ)), aI cy (a 9) 6 (b 5)] sz)) (rd_Q (some (.int (nI (unl σ d m9))))) 0 0 (nF) := by
  refine mt_of (cc := cX0_unlikeMarks) (maxL := 3) (ret := (some .int)) (by decide +kernel) (Nat.le_of_ble_eq_true rfl) ?_
  intro pX eX s mX below meth cX ls A hx hb hr hml hown hts hlk hin hsz hAe hA hP hD hK hX hl
  have hl : lv_has ls 3 [(0, .ref (a 0)), (1, .int (nI d)), (2, .int (nI m9))] := hl
  have hS : va_S A s.heap s.heap [] := va_S.rf
  have hn0 := hwf.n0
  have hn1 := hwf.n1
  have hh2 := hwf.h2
  have hdb := hwf.db hd
  have hx9 : dg σ d 0 ^^^ m9 < 2 ^ 8 := Nat.xor_lt_two_pow (by omega) (by omega)
  refine lv_aload_n hx hb dX0_unlikeMarks_0 rfl (lv_at hl 0 rfl) ?_
  refine va_get (D := g) (ci := 0) (v := .ref (a 4)) (C := RX0) (T := TX0) (N := 11) hx hb hts bgX0 hown hK hP 0 rfl rfl 1 (by decide) (hts _ wd2_12) (fun _ h9 => h9) rfl dX0_unlikeMarks_1 ?_
  refine lv_iload_n hx hb dX0_unlikeMarks_4 rfl (lv_at hl 1 rfl) ?_
  refine lv_iconst (v := (nI 0)) hx hb dX0_unlikeMarks_5 (by decide) ?_
  refine rd_call (va_runV (As := [.int (nI d), .int (nI 0)]) (rest := []) ⟨hx, hb, hml, hown, hts⟩ (c_X3_get l g cy (a 4) (a 5) s.heap.size 6 11 66 (b 2) (σ 0) (nI d) 0 (by omega) (by omega) (by omega) (by omega) (by omega) (by omega)) ⟨(cB 2 hts wd13_23 wd2_11 wd13_20 rfl rfl (by decide +kernel) ⟨Nat.le_of_ble_eq_true rfl, Nat.le_of_ble_eq_true rfl⟩), hts _ wd13_21, hts _ wd13_22⟩ (pv hK hP hD hS hA hX [4, 5] rfl rfl 3 4 rfl rfl) rfl rfl hl.1 rfl (lv_room (Nat.le_of_ble_eq_true rfl)) dX0_unlikeMarks_6 ⟨Nat.zero_le _, Nat.zero_le _⟩) ?_
  refine ti (show getR (b 2) 11 (σ 0) (nI d) 0 = (nI (dg σ d 0)) from (hbr.gd hn0 (by omega) (by decide))) ?_
  refine lv_iload_n hx hb dX0_unlikeMarks_9 rfl (lv_at hl 2 rfl) ?_
  refine lv_ixor hx hb dX0_unlikeMarks_10 ?_
  refine ti (nx_xor (dg σ d 0) m9) ?_
  refine rd_call (va_runS (As := [.int (nI ((dg σ d 0) ^^^ m9))]) (rest := []) ⟨hx, hb, hml, hown, hts⟩ (c_J6_bitCount_0f7a4 l ((dg σ d 0) ^^^ m9) (by omega)) ⟨(cB 1 hts wd14_7 wd14_6 wd14_4 rfl rfl (by decide +kernel) ⟨Nat.le_of_ble_eq_true rfl, Nat.le_of_ble_eq_true rfl⟩), hts _ wd14_5⟩ p0 rfl rfl hl.1 rfl (lv_room (Nat.le_of_ble_eq_true rfl)) dX0_unlikeMarks_11 ⟨Nat.zero_le _, Nat.zero_le _⟩) ?_
  show W _ _ _ _ _ _ _ _ _ _ _ _ _ _ _ (F0 mX 14 ls [.int (nI (ct ((dg σ d 0) ^^^ m9).testBit 24))])
  refine ti (show (nI (ct ((dg σ d 0) ^^^ m9).testBit 24)) = (nI (unl σ d m9)) from rfl) ?_
  exact rd_i rfl hx hb hr dX0_unlikeMarks_14 hlk
set_option maxHeartbeats 4000000 in
set_option maxRecDepth 100000 in
theorem c_X0_isMeantBefore (l : Launch) (g : va_G) (cy : Nat → ClassId) (sz : Nat) (a : Nat → Nat) (σ : Nat → Nat) (b : Nat → Nat → Int32) (bd : Nat) (d : Nat) (o : Nat) (m9 : Nat) (hwf : WF bd σ) (hbr : BR σ b) (hd : d < σ 0) (ho : o < σ 0) (hm9 : m9 < 256) : Met l yX0_isMeantBefore (Cond.code yX0_isMeantBefore cX0_isMeantBefore 6 (some .boolean) :: wsL_law) ({ frames := 2, cells := 0, slots := 0, locals := 45 } : Room) (va_Pc [.ref (a 0), .int (nI d), .int (nI o), .int (nI m9)] (pr g cy [(a 0, .inr (0, [.ref (a 1), .ref (a 4), .ref (a 6), .ref (a 8), .ref (a 9), .int (nI (σ 2)), .int (nI (σ 3)), .int (nI (σ 4)), .int (nI (σ 5)), .int (nI (σ 6)), .int (nI (σ 7))])), (a 1, .inr (2, [.ref (a 2), .ref (a 3), .int (nI (cmk σ))])), aI cy (a 2) 144 (wv σ), aI cy (a 3) 12 (b 1), (a 4, .inr (3, [.int (nI 6), .int (nI 11), .ref (a 5), .int (nI (σ 0))])), aI cy (a 5) 66 (b 2), (a 6, .inr (3, [.int (nI 20), .int (nI 6), .ref (a 7), .int (nI (σ 1))])), aI cy (a 7) 120 (b 3), aI cy (a 8) 8 (mS (pu σ)), aI cy (a 9) 6 (b 5)] sz)) (rd_Q (some (.int (bI (bef σ d o m9))))) 0 0 (nF) := by
  refine mt_of (cc := cX0_isMeantBefore) (maxL := 6) (ret := (some .boolean)) (by decide +kernel) (Nat.le_of_ble_eq_true rfl) ?_
  intro pX eX s mX below meth cX ls A hx hb hr hml hown hts hlk hin hsz hAe hA hP hD hK hX hl
  have hl : lv_has ls 6 [(0, .ref (a 0)), (1, .int (nI d)), (2, .int (nI o)), (3, .int (nI m9))] := hl
  have hS : va_S A s.heap s.heap [] := va_S.rf
  have hn0 := hwf.n0
  have hn1 := hwf.n1
  have hh2 := hwf.h2
  have hdb := hwf.db hd
  have hob := hwf.db ho
  have u1 := unl_le (σ := σ) (d := d) (m := m9)
  have u2 := unl_le (σ := σ) (d := o) (m := m9)
  refine lv_aload_n hx hb dX0_isMeantBefore_0 rfl (lv_at hl 0 rfl) ?_
  refine lv_iload_n hx hb dX0_isMeantBefore_1 rfl (lv_at hl 1 rfl) ?_
  refine lv_iload_n hx hb dX0_isMeantBefore_2 rfl (lv_at hl 3 rfl) ?_
  refine rd_call (va_runV (As := [.int (nI d), .int (nI m9)]) (rest := []) ⟨hx, hb, hml, hown, hts⟩ (c_X0_unlikeMarks l g cy  s.heap.size a σ b bd d m9 hwf hbr (by omega) (by omega)) ⟨(cB 2 hts wd14_3 wd1_12 wd14_0 rfl rfl (by decide +kernel) ⟨Nat.le_of_ble_eq_true rfl, Nat.le_of_ble_eq_true rfl⟩), hts _ wd14_1, hts _ wd14_2⟩ (pv hK hP hD hS hA hX [0, 1, 2, 3, 4, 5, 6, 7, 8, 9] rfl rfl 0 0 rfl rfl) rfl rfl hl.1 rfl (lv_room (Nat.le_of_ble_eq_true rfl)) dX0_isMeantBefore_3 ⟨Nat.zero_le _, Nat.zero_le _⟩) ?_
  show W _ _ _ _ _ _ _ _ _ _ _ _ _ _ _ (F0 mX 6 ls [.int (nI (unl σ d m9))])
  refine lv_istore (lv' := [(4, .int (nI (unl σ d m9))), (0, .ref (a 0)), (1, .int (nI d)), (2, .int (nI o)), (3, .int (nI m9))]) hx hb dX0_isMeantBefore_6 hl (by decide) rfl (fun ls hl => ?_)
  refine lv_aload_n hx hb dX0_isMeantBefore_8 rfl (lv_at hl 1 rfl) ?_
  refine lv_iload_n hx hb dX0_isMeantBefore_9 rfl (lv_at hl 3 rfl) ?_
  refine lv_iload_n hx hb dX0_isMeantBefore_10 rfl (lv_at hl 4 rfl) ?_
  refine rd_call (va_runV (As := [.int (nI o), .int (nI m9)]) (rest := []) ⟨hx, hb, hml, hown, hts⟩ (c_X0_unlikeMarks l g cy  s.heap.size a σ b bd o m9 hwf hbr (by omega) (by omega)) ⟨(cB 2 hts wd14_3 wd1_12 wd14_0 rfl rfl (by decide +kernel) ⟨Nat.le_of_ble_eq_true rfl, Nat.le_of_ble_eq_true rfl⟩), hts _ wd14_1, hts _ wd14_2⟩ (pv hK hP hD hS hA hX [0, 1, 2, 3, 4, 5, 6, 7, 8, 9] rfl rfl 0 0 rfl rfl) rfl rfl hl.1 rfl (lv_room (Nat.le_of_ble_eq_true rfl)) dX0_isMeantBefore_11 ⟨Nat.zero_le _, Nat.zero_le _⟩) ?_
  show W _ _ _ _ _ _ _ _ _ _ _ _ _ _ _ (F0 mX 14 ls [.int (nI (unl σ o m9))])
  refine lv_istore (lv' := [(5, .int (nI (unl σ o m9))), (4, .int (nI (unl σ d m9))), (0, .ref (a 0)), (1, .int (nI d)), (2, .int (nI o)), (3, .int (nI m9))]) hx hb dX0_isMeantBefore_14 hl (by decide) rfl (fun ls hl => ?_)
  refine lv_iload hx hb dX0_isMeantBefore_16 (lv_at hl 1 rfl) ?_
  refine lv_iload hx hb dX0_isMeantBefore_18 (lv_at hl 0 rfl) ?_
  refine lv_icmp_eq (tgt := 36) hx hb dX0_isMeantBefore_20 (by decide) (fun c_20 => ?_) (fun c_20 => ?_)
  · have c_20 := (nc_eq9 (by omega) (by omega) c_20)
    refine lv_aload_n hx hb dX0_isMeantBefore_36 rfl (lv_at hl 2 rfl) ?_
    refine va_get (D := g) (ci := 0) (v := .ref (a 4)) (C := RX0) (T := TX0) (N := 11) hx hb hts bgX0 hown hK hP 0 rfl rfl 1 (by decide) (hts _ wd2_12) (fun _ h9 => h9) rfl dX0_isMeantBefore_37 ?_
    refine lv_iload_n hx hb dX0_isMeantBefore_40 rfl (lv_at hl 3 rfl) ?_
    refine lv_iconst (v := (nI 4)) hx hb dX0_isMeantBefore_41 (by decide) ?_
    refine rd_call (va_runV (As := [.int (nI d), .int (nI 4)]) (rest := []) ⟨hx, hb, hml, hown, hts⟩ (c_X3_get l g cy (a 4) (a 5) s.heap.size 6 11 66 (b 2) (σ 0) (nI d) 4 (by omega) (by omega) (by omega) (by omega) (by omega) (by omega)) ⟨(cB 2 hts wd13_23 wd2_11 wd13_20 rfl rfl (by decide +kernel) ⟨Nat.le_of_ble_eq_true rfl, Nat.le_of_ble_eq_true rfl⟩), hts _ wd13_21, hts _ wd13_22⟩ (pv hK hP hD hS hA hX [4, 5] rfl rfl 3 4 rfl rfl) rfl rfl hl.1 rfl (lv_room (Nat.le_of_ble_eq_true rfl)) dX0_isMeantBefore_42 ⟨Nat.zero_le _, Nat.zero_le _⟩) ?_
    refine ti (show getR (b 2) 11 (σ 0) (nI d) 4 = (nI (dg σ d 4)) from (hbr.gd hn0 (by omega) (by decide))) ?_
    refine lv_aload_n hx hb dX0_isMeantBefore_45 rfl (lv_at hl 2 rfl) ?_
    refine va_get (D := g) (ci := 0) (v := .ref (a 4)) (C := RX0) (T := TX0) (N := 11) hx hb hts bgX0 hown hK hP 0 rfl rfl 1 (by decide) (hts _ wd2_12) (fun _ h9 => h9) rfl dX0_isMeantBefore_46 ?_
    refine lv_iload_n hx hb dX0_isMeantBefore_49 rfl (lv_at hl 4 rfl) ?_
    refine lv_iconst (v := (nI 4)) hx hb dX0_isMeantBefore_50 (by decide) ?_
    refine rd_call (va_runV (As := [.int (nI o), .int (nI 4)]) (rest := [.int (nI (dg σ d 4))]) ⟨hx, hb, hml, hown, hts⟩ (c_X3_get l g cy (a 4) (a 5) s.heap.size 6 11 66 (b 2) (σ 0) (nI o) 4 (by omega) (by omega) (by omega) (by omega) (by omega) (by omega)) ⟨(cB 2 hts wd13_23 wd2_11 wd13_20 rfl rfl (by decide +kernel) ⟨Nat.le_of_ble_eq_true rfl, Nat.le_of_ble_eq_true rfl⟩), hts _ wd13_21, hts _ wd13_22⟩ (pv hK hP hD hS hA hX [4, 5] rfl rfl 3 4 rfl rfl) rfl rfl hl.1 rfl (lv_room (Nat.le_of_ble_eq_true rfl)) dX0_isMeantBefore_51 ⟨Nat.zero_le _, Nat.zero_le _⟩) ?_
    refine ti (show getR (b 2) 11 (σ 0) (nI o) 4 = (nI (dg σ o 4)) from (hbr.gd hn0 (by omega) (by decide))) ?_
    refine lv_icmp_le (tgt := 61) hx hb dX0_isMeantBefore_54 (by decide) (fun c_54 => ?_) (fun c_54 => ?_)
    · have c_54 := (nc_le (by omega) (by omega) c_54)
      refine lv_iconst (v := (nI 0)) hx hb dX0_isMeantBefore_61 (by decide) ?_
      exact rd_z (by (try have := Nat.not_lt.mpr c_27); (try have := Nat.not_lt.mpr c_54); simp [bef, bI, nI_0, nI_o, *]) hx hb hr dX0_isMeantBefore_62 hlk
    · have c_54 := (nc_nle (by omega) (by omega) c_54)
      refine lv_iconst (v := (nI 1)) hx hb dX0_isMeantBefore_57 (by decide) ?_
      refine lv_goto (tgt := 62) hx hb dX0_isMeantBefore_58 (by decide) ?_
      exact rd_z (by (try have := Nat.not_lt.mpr c_27); (try have := Nat.not_lt.mpr c_54); simp [bef, bI, nI_0, nI_o, *]) hx hb hr dX0_isMeantBefore_62 hlk
  · have c_20 := (nc_ne9 (by omega) (by omega) c_20)
    refine lv_iload hx hb dX0_isMeantBefore_23 (lv_at hl 1 rfl) ?_
    refine lv_iload hx hb dX0_isMeantBefore_25 (lv_at hl 0 rfl) ?_
    refine lv_icmp_ge (tgt := 34) hx hb dX0_isMeantBefore_27 (by decide) (fun c_27 => ?_) (fun c_27 => ?_)
    · have c_27 := (nc_le (by omega) (by omega) c_27)
      refine lv_iconst (v := (nI 0)) hx hb dX0_isMeantBefore_34 (by decide) ?_
      exact rd_z (by (try have := Nat.not_lt.mpr c_27); (try have := Nat.not_lt.mpr c_54); simp [bef, bI, nI_0, nI_o, *]) hx hb hr dX0_isMeantBefore_35 hlk
    · have c_27 := (nc_nle (by omega) (by omega) c_27)
      refine lv_iconst (v := (nI 1)) hx hb dX0_isMeantBefore_30 (by decide) ?_
      refine lv_goto (tgt := 35) hx hb dX0_isMeantBefore_31 (by decide) ?_
      exact rd_z (by (try have := Nat.not_lt.mpr c_27); (try have := Nat.not_lt.mpr c_54); simp [bef, bI, nI_0, nI_o, *]) hx hb hr dX0_isMeantBefore_35 hlk
set_option maxHeartbeats 4000000 in
set_option maxRecDepth 100000 in
theorem c_X0_dogMeantBy (l : Launch) (g : va_G) (cy : Nat → ClassId) (sz : Nat) (a : Nat → Nat) (σ : Nat → Nat) (b : Nat → Nat → Int32) (bd : Nat) (m9 : Nat) (h9 : Nat) (hwf : WF bd σ) (hbr : BR σ b) (hm9 : m9 < 256) (hh9 : h9 < 2 ^ 31) : Met l yX0_dogMeantBy (Cond.code yX0_dogMeantBy cX0_dogMeantBy 6 (some .int) :: wsL_law) ({ frames := 3, cells := 0, slots := 0, locals := 70 } : Room) (va_Pc [.ref (a 0), .int (nI m9), .int (nI h9)] (pr g cy [(a 0, .inr (0, [.ref (a 1), .ref (a 4), .ref (a 6), .ref (a 8), .ref (a 9), .int (nI (σ 2)), .int (nI (σ 3)), .int (nI (σ 4)), .int (nI (σ 5)), .int (nI (σ 6)), .int (nI (σ 7))])), (a 1, .inr (2, [.ref (a 2), .ref (a 3), .int (nI (cmk σ))])), aI cy (a 2) 144 (wv σ), aI cy (a 3) 12 (b 1), (a 4, .inr (3, [.int (nI 6), .int (nI 11), .ref (a 5), .int (nI (σ 0))])), aI cy (a 5) 66 (b 2), (a 6, .inr (3, [.int (nI 20), .int (nI 6), .ref (a 7), .int (nI (σ 1))])), aI cy (a 7) 120 (b 3), aI cy (a 8) 8 (mS (pu σ)), aI cy (a 9) 6 (b 5)] sz)) (rd_Q (some (.int (nI (mea σ m9 h9))))) 0 0 (nF) := by
  refine mt_of (cc := cX0_dogMeantBy) (maxL := 6) (ret := (some .int)) (by decide +kernel) (Nat.le_of_ble_eq_true rfl) ?_
  intro pX eX s mX below meth cX ls A hx hb hr hml hown hts hlk hin hsz hAe hA hP hD hK hX hl
  have hl : lv_has ls 6 [(0, .ref (a 0)), (1, .int (nI m9)), (2, .int (nI h9))] := hl
  have hS : va_S A s.heap s.heap [] := va_S.rf
  have hn0 := hwf.n0
  have hn1 := hwf.n1
  have hh2 := hwf.h2
  refine lv_iconst (v := (nI NN)) hx hb dX0_dogMeantBy_0 (by decide) ?_
  refine lv_istore_n (lv' := [(3, .int (nI NN)), (0, .ref (a 0)), (1, .int (nI m9)), (2, .int (nI h9))]) hx hb dX0_dogMeantBy_1 rfl hl (by decide) rfl (fun ls hl => ?_)
  refine lv_iconst (v := (nI 0)) hx hb dX0_dogMeantBy_2 (by decide) ?_
  refine lv_istore (lv' := [(4, .int (nI 0)), (3, .int (nI NN)), (0, .ref (a 0)), (1, .int (nI m9)), (2, .int (nI h9))]) hx hb dX0_dogMeantBy_3 hl (by decide) rfl (fun ls hl => ?_)
  have hl : lv_has ls 6 [(4, .int (nI 0)), (3, .int (nI (mei σ m9 h9 0))), (0, .ref (a 0)), (1, .int (nI m9)), (2, .int (nI h9))] := by rw [← show (nI NN) = (nI (mei σ m9 h9 0)) from rfl]; exact hl
  refine lp_rd (σ := (Nat)) (fun x9 ls9 => lv_has ls9 6 [(0, .ref (a 0)), (1, .int (nI m9)), (2, .int (nI h9)), (3, .int (nI (mei σ m9 h9 x9))), (4, .int (nI x9))] ∧ (x9 ≤ σ 0)) (fun x9 => σ 0 - x9) (0) ⟨lv_sub hl [2, 3, 4, 1, 0] rfl, (by omega)⟩ ?_
  rintro i ls ⟨hl, hi⟩ ih5
  try dsimp only at hl hi ih5
  refine lv_iload hx hb dX0_dogMeantBy_5 (lv_at hl 4 rfl) ?_
  refine lv_aload_n hx hb dX0_dogMeantBy_7 rfl (lv_at hl 0 rfl) ?_
  refine va_get (D := g) (ci := 0) (v := .ref (a 4)) (C := RX0) (T := TX0) (N := 11) hx hb hts bgX0 hown hK hP 0 rfl rfl 1 (by decide) (hts _ wd2_12) (fun _ h9 => h9) rfl dX0_dogMeantBy_8 ?_
  refine rd_call (va_runV (As := []) (rest := [.int (nI i)]) ⟨hx, hb, hml, hown, hts⟩ (c_X3_count l g cy (a 4) (a 5) s.heap.size 6 11 66 (b 2) (σ 0) ) ⟨(cB 0 hts wd13_15 wd2_11 wd13_12 rfl rfl (by decide +kernel) ⟨Nat.le_of_ble_eq_true rfl, Nat.le_of_ble_eq_true rfl⟩), hts _ wd13_13, hts _ wd13_14⟩ (pv hK hP hD hS hA hX [4, 5] rfl rfl 3 4 rfl rfl) rfl rfl hl.1 rfl (lv_room (Nat.le_of_ble_eq_true rfl)) dX0_dogMeantBy_11 ⟨Nat.zero_le _, Nat.zero_le _⟩) ?_
  show W _ _ _ _ _ _ _ _ _ _ _ _ _ _ _ (F0 mX 14 ls [.int (nI (σ 0)), .int (nI i)])
  refine lv_icmp_ge (tgt := 91) hx hb dX0_dogMeantBy_14 (by decide) (fun c_14 => ?_) (fun c_14 => ?_)
  · have c_14 := (nc_le (by omega) (by omega) c_14)
    have e9 : i = σ 0 := by omega
    subst e9
    refine lv_iload_n hx hb dX0_dogMeantBy_91 rfl (lv_at hl 3 rfl) ?_
    exact rd_i rfl hx hb hr dX0_dogMeantBy_92 hlk
  · have c_14 := (nc_nle (by omega) (by omega) c_14)
    have hi6 : i < 6 := by omega
    have hdb := hwf.db (show i < σ 0 by omega)
    have u1 := unl_le (σ := σ) (d := i) (m := m9)
    have s7 : σ 7 ≤ 8 := hwf.2.2.2.2.2.1
    have hme := mei_lt (σ := σ) (m := m9) (h := h9) (n := i)
    have hNN : NN = 4294967295 := rfl
    refine jn_i (pcj := 59) (ls := ls) (st := []) (fun v9 => v9 = (bI (cm3 σ m9 h9 i))) ?_ (fun jn59 => ?_)
    · intro v9 hv9
      subst hv9
      refine lv_istore (lv' := [(5, .int (bI (cm3 σ m9 h9 i))), (0, .ref (a 0)), (1, .int (nI m9)), (2, .int (nI h9)), (3, .int (nI (mei σ m9 h9 i))), (4, .int (nI i))]) hx hb dX0_dogMeantBy_59 hl (by decide) rfl (fun ls hl => ?_)
      refine lv_iload hx hb dX0_dogMeantBy_61 (lv_at hl 0 rfl) ?_
      refine lv_if_eq (tgt := 85) hx hb dX0_dogMeantBy_63 (by decide) (fun c_63 => ?_) (fun c_63 => ?_)
      · have c_63 := (bI_eq0.mp c_63)
        have hl : lv_has ls 6 [(5, .int (bI (cm3 σ m9 h9 i))), (0, .ref (a 0)), (1, .int (nI m9)), (2, .int (nI h9)), (3, .int (nI (mei σ m9 h9 (i + 1)))), (4, .int (nI i))] := by rw [← show (nI (mei σ m9 h9 i)) = (nI (mei σ m9 h9 (i + 1))) from (by rw [show mei σ m9 h9 (i + 1) = mei σ m9 h9 i from (by rw [mei_skip hi6 c_63])])]; exact hl
        refine lv_iinc (v := (nI (i + 1))) (lv' := [(4, .int (nI (i + 1))), (5, .int (bI (cm3 σ m9 h9 i))), (0, .ref (a 0)), (1, .int (nI m9)), (2, .int (nI h9)), (3, .int (nI (mei σ m9 h9 (i + 1))))]) hx hb dX0_dogMeantBy_85 hl (k := 5) rfl (nI_add i 1) (by decide) rfl (fun ls hl => ?_)
        refine lv_goto (tgt := 5) hx hb dX0_dogMeantBy_88 (by decide) ?_
        exact ih5 (i + 1) ls ⟨lv_sub hl [2, 3, 4, 5, 0] rfl, (by omega)⟩ (by first | omega | (dsimp only; omega))
      · have c_63 := (bI_ne0.mp c_63)
        refine lv_iload_n hx hb dX0_dogMeantBy_66 rfl (lv_at hl 4 rfl) ?_
        refine lv_iconst (v := (nI NN)) hx hb dX0_dogMeantBy_67 (by decide) ?_
        refine lv_icmp_eq (tgt := 82) hx hb dX0_dogMeantBy_68 (by decide) (fun c_68 => ?_) (fun c_68 => ?_)
        · have c_68 := (nc_eq9 (by omega) (by decide) c_68)
          refine lv_iload hx hb dX0_dogMeantBy_82 (lv_at hl 5 rfl) ?_
          refine lv_istore_n (lv' := [(3, .int (nI i)), (5, .int (bI (cm3 σ m9 h9 i))), (0, .ref (a 0)), (1, .int (nI m9)), (2, .int (nI h9)), (4, .int (nI i))]) hx hb dX0_dogMeantBy_84 rfl hl (by decide) rfl (fun ls hl => ?_)
          have hl : lv_has ls 6 [(3, .int (nI (mei σ m9 h9 (i + 1)))), (5, .int (bI (cm3 σ m9 h9 i))), (0, .ref (a 0)), (1, .int (nI m9)), (2, .int (nI h9)), (4, .int (nI i))] := by rw [← show (nI i) = (nI (mei σ m9 h9 (i + 1))) from (by rw [show mei σ m9 h9 (i + 1) = i from (by rw [mei_go hi6 c_63, if_pos c_68])])]; exact hl
          refine lv_iinc (v := (nI (i + 1))) (lv' := [(4, .int (nI (i + 1))), (3, .int (nI (mei σ m9 h9 (i + 1)))), (5, .int (bI (cm3 σ m9 h9 i))), (0, .ref (a 0)), (1, .int (nI m9)), (2, .int (nI h9))]) hx hb dX0_dogMeantBy_85 hl (k := 5) rfl (nI_add i 1) (by decide) rfl (fun ls hl => ?_)
          refine lv_goto (tgt := 5) hx hb dX0_dogMeantBy_88 (by decide) ?_
          exact ih5 (i + 1) ls ⟨lv_sub hl [3, 4, 5, 1, 0] rfl, (by omega)⟩ (by first | omega | (dsimp only; omega))
        · have c_68 := (nc_ne9 (by omega) (by decide) c_68)
          refine lv_aload_n hx hb dX0_dogMeantBy_71 rfl (lv_at hl 1 rfl) ?_
          refine lv_iload hx hb dX0_dogMeantBy_72 (lv_at hl 5 rfl) ?_
          refine lv_iload_n hx hb dX0_dogMeantBy_74 rfl (lv_at hl 4 rfl) ?_
          refine lv_iload_n hx hb dX0_dogMeantBy_75 rfl (lv_at hl 2 rfl) ?_
          have hme2 : mei σ m9 h9 i < σ 0 := by omega
          refine rd_call (va_runV (As := [.int (nI i), .int (nI (mei σ m9 h9 i)), .int (nI m9)]) (rest := []) ⟨hx, hb, hml, hown, hts⟩ (c_X0_isMeantBefore l g cy  s.heap.size a σ b bd i (mei σ m9 h9 i) m9 hwf hbr (by omega) (by omega) (by omega)) ⟨(cB 3 hts wd14_14 wd1_12 wd14_11 rfl rfl (by decide +kernel) ⟨Nat.le_of_ble_eq_true rfl, Nat.le_of_ble_eq_true rfl⟩), hts _ wd14_12, hts _ wd14_13⟩ (pv hK hP hD hS hA hX [0, 1, 2, 3, 4, 5, 6, 7, 8, 9] rfl rfl 0 0 rfl rfl) rfl rfl hl.1 rfl (lv_room (Nat.le_of_ble_eq_true rfl)) dX0_dogMeantBy_76 ⟨Nat.zero_le _, Nat.zero_le _⟩) ?_
          show W _ _ _ _ _ _ _ _ _ _ _ _ _ _ _ (F0 mX 79 ls [.int (bI (bef σ i (mei σ m9 h9 i) m9))])
          refine lv_if_eq (tgt := 85) hx hb dX0_dogMeantBy_79 (by decide) (fun c_79 => ?_) (fun c_79 => ?_)
          · have c_79 := (bI_eq0.mp c_79)
            have hl : lv_has ls 6 [(5, .int (bI (cm3 σ m9 h9 i))), (0, .ref (a 0)), (1, .int (nI m9)), (2, .int (nI h9)), (3, .int (nI (mei σ m9 h9 (i + 1)))), (4, .int (nI i))] := by rw [← show (nI (mei σ m9 h9 i)) = (nI (mei σ m9 h9 (i + 1))) from (by rw [show mei σ m9 h9 (i + 1) = mei σ m9 h9 i from (by rw [mei_go hi6 c_63, if_neg c_68, if_neg (by rw [c_79]; decide)])])]; exact hl
            refine lv_iinc (v := (nI (i + 1))) (lv' := [(4, .int (nI (i + 1))), (5, .int (bI (cm3 σ m9 h9 i))), (0, .ref (a 0)), (1, .int (nI m9)), (2, .int (nI h9)), (3, .int (nI (mei σ m9 h9 (i + 1))))]) hx hb dX0_dogMeantBy_85 hl (k := 5) rfl (nI_add i 1) (by decide) rfl (fun ls hl => ?_)
            refine lv_goto (tgt := 5) hx hb dX0_dogMeantBy_88 (by decide) ?_
            exact ih5 (i + 1) ls ⟨lv_sub hl [2, 3, 4, 5, 0] rfl, (by omega)⟩ (by first | omega | (dsimp only; omega))
          · have c_79 := (bI_ne0.mp c_79)
            refine lv_iload hx hb dX0_dogMeantBy_82 (lv_at hl 5 rfl) ?_
            refine lv_istore_n (lv' := [(3, .int (nI i)), (5, .int (bI (cm3 σ m9 h9 i))), (0, .ref (a 0)), (1, .int (nI m9)), (2, .int (nI h9)), (4, .int (nI i))]) hx hb dX0_dogMeantBy_84 rfl hl (by decide) rfl (fun ls hl => ?_)
            have hl : lv_has ls 6 [(3, .int (nI (mei σ m9 h9 (i + 1)))), (5, .int (bI (cm3 σ m9 h9 i))), (0, .ref (a 0)), (1, .int (nI m9)), (2, .int (nI h9)), (4, .int (nI i))] := by rw [← show (nI i) = (nI (mei σ m9 h9 (i + 1))) from (by rw [show mei σ m9 h9 (i + 1) = i from (by rw [mei_go hi6 c_63, if_neg c_68, if_pos c_79])])]; exact hl
            refine lv_iinc (v := (nI (i + 1))) (lv' := [(4, .int (nI (i + 1))), (3, .int (nI (mei σ m9 h9 (i + 1)))), (5, .int (bI (cm3 σ m9 h9 i))), (0, .ref (a 0)), (1, .int (nI m9)), (2, .int (nI h9))]) hx hb dX0_dogMeantBy_85 hl (k := 5) rfl (nI_add i 1) (by decide) rfl (fun ls hl => ?_)
            refine lv_goto (tgt := 5) hx hb dX0_dogMeantBy_88 (by decide) ?_
            exact ih5 (i + 1) ls ⟨lv_sub hl [3, 4, 5, 1, 0] rfl, (by omega)⟩ (by first | omega | (dsimp only; omega))
    · skip
      have hi6 : i < 6 := by omega
      have hdb := hwf.db (show i < σ 0 by omega)
      have u1 := unl_le (σ := σ) (d := i) (m := m9)
      have s7 : σ 7 ≤ 8 := hwf.2.2.2.2.2.1
      have hme := mei_lt (σ := σ) (m := m9) (h := h9) (n := i)
      have hNN : NN = 4294967295 := rfl
      refine lv_aload_n hx hb dX0_dogMeantBy_17 rfl (lv_at hl 0 rfl) ?_
      refine lv_iload hx hb dX0_dogMeantBy_18 (lv_at hl 4 rfl) ?_
      refine rd_call (va_runV (As := [.int (nI i)]) (rest := []) ⟨hx, hb, hml, hown, hts⟩ (c_X0_isMissing l g cy  s.heap.size a σ b bd i hwf hbr (by omega)) ⟨(cB 1 hts wd13_19 wd1_12 wd13_16 rfl rfl (by decide +kernel) ⟨Nat.le_of_ble_eq_true rfl, Nat.le_of_ble_eq_true rfl⟩), hts _ wd13_17, hts _ wd13_18⟩ (pv hK hP hD hS hA hX [0, 1, 2, 3, 4, 5, 6, 7, 8, 9] rfl rfl 0 0 rfl rfl) rfl rfl hl.1 rfl (lv_room (Nat.le_of_ble_eq_true rfl)) dX0_dogMeantBy_20 ⟨Nat.zero_le _, Nat.zero_le _⟩) ?_
      show W _ _ _ _ _ _ _ _ _ _ _ _ _ _ _ (F0 mX 23 ls [.int (bI (decide (i < σ 0) && msg σ i))])
      refine ti (show (bI (decide (i < σ 0) && msg σ i)) = (bI (msg σ i)) from (by simp [show i < σ 0 from (by omega)])) ?_
      refine lv_if_eq (tgt := 58) hx hb dX0_dogMeantBy_23 (by decide) (fun c_23 => ?_) (fun c_23 => ?_)
      · have c_23 := (bI_eq0.mp c_23)
        refine lv_iconst (v := (nI 0)) hx hb dX0_dogMeantBy_58 (by decide) ?_
        exact jn59 _ (by simp [cm3, bI, nI_0, nI_o, c_23])
      · have c_23 := (bI_ne0.mp c_23)
        refine lv_aload_n hx hb dX0_dogMeantBy_26 rfl (lv_at hl 0 rfl) ?_
        refine va_get (D := g) (ci := 0) (v := .ref (a 4)) (C := RX0) (T := TX0) (N := 11) hx hb hts bgX0 hown hK hP 0 rfl rfl 1 (by decide) (hts _ wd2_12) (fun _ h9 => h9) rfl dX0_dogMeantBy_27 ?_
        refine lv_iload hx hb dX0_dogMeantBy_30 (lv_at hl 4 rfl) ?_
        refine lv_iconst (v := (nI 3)) hx hb dX0_dogMeantBy_32 (by decide) ?_
        refine rd_call (va_runV (As := [.int (nI i), .int (nI 3)]) (rest := []) ⟨hx, hb, hml, hown, hts⟩ (c_X3_get l g cy (a 4) (a 5) s.heap.size 6 11 66 (b 2) (σ 0) (nI i) 3 (by omega) (by omega) (by omega) (by omega) (by omega) (by omega)) ⟨(cB 2 hts wd13_23 wd2_11 wd13_20 rfl rfl (by decide +kernel) ⟨Nat.le_of_ble_eq_true rfl, Nat.le_of_ble_eq_true rfl⟩), hts _ wd13_21, hts _ wd13_22⟩ (pv hK hP hD hS hA hX [4, 5] rfl rfl 3 4 rfl rfl) rfl rfl hl.1 rfl (lv_room (Nat.le_of_ble_eq_true rfl)) dX0_dogMeantBy_33 ⟨Nat.zero_le _, Nat.zero_le _⟩) ?_
        refine ti (show getR (b 2) 11 (σ 0) (nI i) 3 = (nI (dg σ i 3)) from (hbr.gd hn0 (by omega) (by decide))) ?_
        refine lv_iload_n hx hb dX0_dogMeantBy_36 rfl (lv_at hl 2 rfl) ?_
        refine lv_icmp_gt (tgt := 58) hx hb dX0_dogMeantBy_37 (by decide) (fun c_37 => ?_) (fun c_37 => ?_)
        · have c_37 := (nc_lt (by omega) (by omega) c_37)
          refine lv_iconst (v := (nI 0)) hx hb dX0_dogMeantBy_58 (by decide) ?_
          exact jn59 _ (by simp [cm3, bI, nI_0, nI_o, c_23, Nat.not_le.mpr c_37])
        · have c_37 := (nc_nlt (by omega) (by omega) c_37)
          refine lv_aload_n hx hb dX0_dogMeantBy_40 rfl (lv_at hl 0 rfl) ?_
          refine lv_iload hx hb dX0_dogMeantBy_41 (lv_at hl 4 rfl) ?_
          refine lv_iload_n hx hb dX0_dogMeantBy_43 rfl (lv_at hl 1 rfl) ?_
          refine rd_call (va_runV (As := [.int (nI i), .int (nI m9)]) (rest := []) ⟨hx, hb, hml, hown, hts⟩ (c_X0_unlikeMarks l g cy  s.heap.size a σ b bd i m9 hwf hbr (by omega) (by omega)) ⟨(cB 2 hts wd14_3 wd1_12 wd14_0 rfl rfl (by decide +kernel) ⟨Nat.le_of_ble_eq_true rfl, Nat.le_of_ble_eq_true rfl⟩), hts _ wd14_1, hts _ wd14_2⟩ (pv hK hP hD hS hA hX [0, 1, 2, 3, 4, 5, 6, 7, 8, 9] rfl rfl 0 0 rfl rfl) rfl rfl hl.1 rfl (lv_room (Nat.le_of_ble_eq_true rfl)) dX0_dogMeantBy_44 ⟨Nat.zero_le _, Nat.zero_le _⟩) ?_
          show W _ _ _ _ _ _ _ _ _ _ _ _ _ _ _ (F0 mX 47 ls [.int (nI (unl σ i m9))])
          refine lv_aload_n hx hb dX0_dogMeantBy_47 rfl (lv_at hl 0 rfl) ?_
          refine va_get (D := g) (ci := 0) (v := .int (nI (σ 7))) (C := RX0) (T := TX0) (N := 11) hx hb hts bgX0 hown hK hP 0 rfl rfl 10 (by decide) (hts _ wd4_5) (fun _ h9 => h9) rfl dX0_dogMeantBy_48 ?_
          refine lv_icmp_gt (tgt := 58) hx hb dX0_dogMeantBy_51 (by decide) (fun c_51 => ?_) (fun c_51 => ?_)
          · have c_51 := (nc_lt (by omega) (by omega) c_51)
            refine lv_iconst (v := (nI 0)) hx hb dX0_dogMeantBy_58 (by decide) ?_
            exact jn59 _ (by simp [cm3, bI, nI_0, nI_o, c_23, c_37, Nat.not_le.mpr c_51])
          · have c_51 := (nc_nlt (by omega) (by omega) c_51)
            refine lv_iconst (v := (nI 1)) hx hb dX0_dogMeantBy_54 (by decide) ?_
            refine lv_goto (tgt := 59) hx hb dX0_dogMeantBy_55 (by decide) ?_
            exact jn59 _ (by simp [cm3, bI, nI_0, nI_o, c_23, c_37, c_51])
set_option maxHeartbeats 4000000 in
set_option maxRecDepth 100000 in
theorem c_X0_sightingsMeaning (l : Launch) (g : va_G) (cy : Nat → ClassId) (sz : Nat) (a : Nat → Nat) (σ : Nat → Nat) (b : Nat → Nat → Int32) (bd : Nat) (d : Nat) (hwf : WF bd σ) (hbr : BR σ b) (hd9 : d < 2 ^ 32) : Met l yX0_sightingsMeaning (Cond.code yX0_sightingsMeaning cX0_sightingsMeaning 4 (some .int) :: wsL_law) ({ frames := 1, cells := 0, slots := 0, locals := 23 } : Room) (va_Pc [.ref (a 0), .int (nI d)] (pr g cy [(a 0, .inr (0, [.ref (a 1), .ref (a 4), .ref (a 6), .ref (a 8), .ref (a 9), .int (nI (σ 2)), .int (nI (σ 3)), .int (nI (σ 4)), .int (nI (σ 5)), .int (nI (σ 6)), .int (nI (σ 7))])), (a 1, .inr (2, [.ref (a 2), .ref (a 3), .int (nI (cmk σ))])), aI cy (a 2) 144 (wv σ), aI cy (a 3) 12 (b 1), (a 4, .inr (3, [.int (nI 6), .int (nI 11), .ref (a 5), .int (nI (σ 0))])), aI cy (a 5) 66 (b 2), (a 6, .inr (3, [.int (nI 20), .int (nI 6), .ref (a 7), .int (nI (σ 1))])), aI cy (a 7) 120 (b 3), aI cy (a 8) 8 (mS (pu σ)), aI cy (a 9) 6 (b 5)] sz)) (rd_Q (some (.int (nI (mk (mng σ d) (σ 1)))))) 0 0 (nF) := by
  refine mt_of (cc := cX0_sightingsMeaning) (maxL := 4) (ret := (some .int)) (by decide +kernel) (Nat.le_of_ble_eq_true rfl) ?_
  intro pX eX s mX below meth cX ls A hx hb hr hml hown hts hlk hin hsz hAe hA hP hD hK hX hl
  have hl : lv_has ls 4 [(0, .ref (a 0)), (1, .int (nI d))] := hl
  have hS : va_S A s.heap s.heap [] := va_S.rf
  have hn0 := hwf.n0
  have hn1 := hwf.n1
  have hh2 := hwf.h2
  refine lv_iconst (v := (nI 0)) hx hb dX0_sightingsMeaning_0 (by decide) ?_
  refine lv_istore_n (lv' := [(2, .int (nI 0)), (0, .ref (a 0)), (1, .int (nI d))]) hx hb dX0_sightingsMeaning_1 rfl hl (by decide) rfl (fun ls hl => ?_)
  refine lv_iconst (v := (nI 0)) hx hb dX0_sightingsMeaning_2 (by decide) ?_
  refine lv_istore_n (lv' := [(3, .int (nI 0)), (2, .int (nI 0)), (0, .ref (a 0)), (1, .int (nI d))]) hx hb dX0_sightingsMeaning_3 rfl hl (by decide) rfl (fun ls hl => ?_)
  have hl : lv_has ls 4 [(3, .int (nI 0)), (2, .int (nI (mk (mng σ d) 0))), (0, .ref (a 0)), (1, .int (nI d))] := by rw [← show (nI 0) = (nI (mk (mng σ d) 0)) from rfl]; exact hl
  refine lp_rd (σ := (Nat)) (fun x9 ls9 => lv_has ls9 4 [(0, .ref (a 0)), (1, .int (nI d)), (2, .int (nI (mk (mng σ d) x9))), (3, .int (nI x9))] ∧ (x9 ≤ σ 1)) (fun x9 => σ 1 - x9) (0) ⟨lv_sub hl [2, 3, 1, 0] rfl, (by omega)⟩ ?_
  rintro s9 ls ⟨hl, hs9⟩ ih4
  try dsimp only at hl hs9 ih4
  refine lv_iload_n hx hb dX0_sightingsMeaning_4 rfl (lv_at hl 3 rfl) ?_
  refine lv_aload_n hx hb dX0_sightingsMeaning_5 rfl (lv_at hl 0 rfl) ?_
  refine va_get (D := g) (ci := 0) (v := .ref (a 6)) (C := RX0) (T := TX0) (N := 11) hx hb hts bgX0 hown hK hP 0 rfl rfl 2 (by decide) (hts _ wd2_13) (fun _ h9 => h9) rfl dX0_sightingsMeaning_6 ?_
  refine rd_call (va_runV (As := []) (rest := [.int (nI s9)]) ⟨hx, hb, hml, hown, hts⟩ (c_X3_count l g cy (a 6) (a 7) s.heap.size 20 6 120 (b 3) (σ 1) ) ⟨(cB 0 hts wd13_15 wd2_11 wd13_12 rfl rfl (by decide +kernel) ⟨Nat.le_of_ble_eq_true rfl, Nat.le_of_ble_eq_true rfl⟩), hts _ wd13_13, hts _ wd13_14⟩ (pv hK hP hD hS hA hX [6, 7] rfl rfl 3 6 rfl rfl) rfl rfl hl.1 rfl (lv_room (Nat.le_of_ble_eq_true rfl)) dX0_sightingsMeaning_9 ⟨Nat.zero_le _, Nat.zero_le _⟩) ?_
  show W _ _ _ _ _ _ _ _ _ _ _ _ _ _ _ (F0 mX 12 ls [.int (nI (σ 1)), .int (nI s9)])
  refine lv_icmp_ge (tgt := 44) hx hb dX0_sightingsMeaning_12 (by decide) (fun c_12 => ?_) (fun c_12 => ?_)
  · have c_12 := (nc_le (by omega) (by omega) c_12)
    have e9 : s9 = σ 1 := by omega
    subst e9
    refine lv_iload_n hx hb dX0_sightingsMeaning_44 rfl (lv_at hl 2 rfl) ?_
    exact rd_i (congrArg nI (by simp [c_12])) hx hb hr dX0_sightingsMeaning_45 hlk
  · have c_12 := (nc_nle (by omega) (by omega) c_12)
    have hsb := hwf.sb (show s9 < σ 1 by omega)
    refine lv_iload_n hx hb dX0_sightingsMeaning_15 rfl (lv_at hl 2 rfl) ?_
    refine lv_aload_n hx hb dX0_sightingsMeaning_16 rfl (lv_at hl 0 rfl) ?_
    refine va_get (D := g) (ci := 0) (v := .ref (a 6)) (C := RX0) (T := TX0) (N := 11) hx hb hts bgX0 hown hK hP 0 rfl rfl 2 (by decide) (hts _ wd2_13) (fun _ h9 => h9) rfl dX0_sightingsMeaning_17 ?_
    refine lv_iload_n hx hb dX0_sightingsMeaning_20 rfl (lv_at hl 3 rfl) ?_
    refine lv_iconst (v := (nI 5)) hx hb dX0_sightingsMeaning_21 (by decide) ?_
    refine rd_call (va_runV (As := [.int (nI s9), .int (nI 5)]) (rest := [.int (nI (mk (mng σ d) s9))]) ⟨hx, hb, hml, hown, hts⟩ (c_X3_get l g cy (a 6) (a 7) s.heap.size 20 6 120 (b 3) (σ 1) (nI s9) 5 (by omega) (by omega) (by omega) (by omega) (by omega) (by omega)) ⟨(cB 2 hts wd13_23 wd2_11 wd13_20 rfl rfl (by decide +kernel) ⟨Nat.le_of_ble_eq_true rfl, Nat.le_of_ble_eq_true rfl⟩), hts _ wd13_21, hts _ wd13_22⟩ (pv hK hP hD hS hA hX [6, 7] rfl rfl 3 6 rfl rfl) rfl rfl hl.1 rfl (lv_room (Nat.le_of_ble_eq_true rfl)) dX0_sightingsMeaning_22 ⟨Nat.zero_le _, Nat.zero_le _⟩) ?_
    refine ti (show getR (b 3) 6 (σ 1) (nI s9) 5 = (nI (sg σ s9 5)) from (hbr.gs hn1 (by omega) (by decide))) ?_
    refine lv_iload_n hx hb dX0_sightingsMeaning_25 rfl (lv_at hl 1 rfl) ?_
    refine lv_icmp_ne (tgt := 35) hx hb dX0_sightingsMeaning_26 (by decide) (fun c_26 => ?_) (fun c_26 => ?_)
    · have c_26 := (nc_ne9 (by omega) (by omega) c_26)
      refine lv_iconst (v := (nI 0)) hx hb dX0_sightingsMeaning_35 (by decide) ?_
      refine lv_ior hx hb dX0_sightingsMeaning_36 ?_
      refine ti (nx_or (mk (mng σ d) s9) 0) ?_
      refine lv_istore_n (lv' := [(2, .int (nI ((mk (mng σ d) s9) ||| 0))), (0, .ref (a 0)), (1, .int (nI d)), (3, .int (nI s9))]) hx hb dX0_sightingsMeaning_37 rfl hl (by decide) rfl (fun ls hl => ?_)
      have hl : lv_has ls 4 [(2, .int (nI (mk (mng σ d) (s9 + 1)))), (0, .ref (a 0)), (1, .int (nI d)), (3, .int (nI s9))] := by rw [← show (nI ((mk (mng σ d) s9) ||| 0)) = (nI (mk (mng σ d) (s9 + 1))) from (congrArg nI (by rw [Nat.or_zero]; exact (mk_s0 (by simp [mng, c_26])).symm))]; exact hl
      refine lv_iinc (v := (nI (s9 + 1))) (lv' := [(3, .int (nI (s9 + 1))), (2, .int (nI (mk (mng σ d) (s9 + 1)))), (0, .ref (a 0)), (1, .int (nI d))]) hx hb dX0_sightingsMeaning_38 hl (k := 3) rfl (nI_add s9 1) (by decide) rfl (fun ls hl => ?_)
      refine lv_goto (tgt := 4) hx hb dX0_sightingsMeaning_41 (by decide) ?_
      exact ih4 (s9 + 1) ls ⟨lv_sub hl [2, 3, 1, 0] rfl, (by omega)⟩ (by first | omega | (dsimp only; omega))
    · have c_26 := (nc_eq9 (by omega) (by omega) c_26)
      refine lv_iconst (v := (nI 1)) hx hb dX0_sightingsMeaning_29 (by decide) ?_
      refine lv_iload_n hx hb dX0_sightingsMeaning_30 rfl (lv_at hl 3 rfl) ?_
      refine lv_ishl hx hb dX0_sightingsMeaning_31 ?_
      refine ti (nb_shl (k := s9) (by omega)) ?_
      refine lv_goto (tgt := 36) hx hb dX0_sightingsMeaning_32 (by decide) ?_
      refine lv_ior hx hb dX0_sightingsMeaning_36 ?_
      refine ti (nx_or (mk (mng σ d) s9) (2 ^ s9)) ?_
      refine lv_istore_n (lv' := [(2, .int (nI ((mk (mng σ d) s9) ||| (2 ^ s9)))), (0, .ref (a 0)), (1, .int (nI d)), (3, .int (nI s9))]) hx hb dX0_sightingsMeaning_37 rfl hl (by decide) rfl (fun ls hl => ?_)
      have hl : lv_has ls 4 [(2, .int (nI (mk (mng σ d) (s9 + 1)))), (0, .ref (a 0)), (1, .int (nI d)), (3, .int (nI s9))] := by rw [← show (nI ((mk (mng σ d) s9) ||| (2 ^ s9))) = (nI (mk (mng σ d) (s9 + 1))) from (congrArg nI (mk_top (by simp [mng, c_26])))]; exact hl
      refine lv_iinc (v := (nI (s9 + 1))) (lv' := [(3, .int (nI (s9 + 1))), (2, .int (nI (mk (mng σ d) (s9 + 1)))), (0, .ref (a 0)), (1, .int (nI d))]) hx hb dX0_sightingsMeaning_38 hl (k := 3) rfl (nI_add s9 1) (by decide) rfl (fun ls hl => ?_)
      refine lv_goto (tgt := 4) hx hb dX0_sightingsMeaning_41 (by decide) ?_
      exact ih4 (s9 + 1) ls ⟨lv_sub hl [2, 3, 1, 0] rfl, (by omega)⟩ (by first | omega | (dsimp only; omega))
set_option maxHeartbeats 4000000 in
set_option maxRecDepth 100000 in
theorem c_X0_trueNowFor (l : Launch) (g : va_G) (cy : Nat → ClassId) (sz : Nat) (a : Nat → Nat) (σ : Nat → Nat) (b : Nat → Nat → Int32) (bd : Nat) (d : Nat) (hwf : WF bd σ) (hbr : BR σ b) (hd : d < σ 0) (hm : msg σ d = true) : Met l yX0_trueNowFor (Cond.code yX0_trueNowFor cX0_trueNowFor 7 (some .int) :: wsL_law) ({ frames := 1, cells := 0, slots := 0, locals := 24 } : Room) (va_Pc [.ref (a 0), .int (nI d)] (pr g cy [(a 0, .inr (0, [.ref (a 1), .ref (a 4), .ref (a 6), .ref (a 8), .ref (a 9), .int (nI (σ 2)), .int (nI (σ 3)), .int (nI (σ 4)), .int (nI (σ 5)), .int (nI (σ 6)), .int (nI (σ 7))])), (a 1, .inr (2, [.ref (a 2), .ref (a 3), .int (nI (cmk σ))])), aI cy (a 2) 144 (wv σ), aI cy (a 3) 12 (b 1), (a 4, .inr (3, [.int (nI 6), .int (nI 11), .ref (a 5), .int (nI (σ 0))])), aI cy (a 5) 66 (b 2), (a 6, .inr (3, [.int (nI 20), .int (nI 6), .ref (a 7), .int (nI (σ 1))])), aI cy (a 7) 120 (b 3), aI cy (a 8) 8 (mS (pu σ)), aI cy (a 9) 6 (b 5)] sz)) (rd_Q (some (.int (nI (mk (trD σ d) (σ 1)))))) 0 0 (nF) := by
  refine mt_of (cc := cX0_trueNowFor) (maxL := 7) (ret := (some .int)) (by decide +kernel) (Nat.le_of_ble_eq_true rfl) ?_
  intro pX eX s mX below meth cX ls A hx hb hr hml hown hts hlk hin hsz hAe hA hP hD hK hX hl
  have hl : lv_has ls 7 [(0, .ref (a 0)), (1, .int (nI d))] := hl
  have hS : va_S A s.heap s.heap [] := va_S.rf
  have hn0 := hwf.n0
  have hn1 := hwf.n1
  have hh2 := hwf.h2
  have hdb := hwf.db hd
  refine lv_iconst (v := (nI 0)) hx hb dX0_trueNowFor_0 (by decide) ?_
  refine lv_istore_n (lv' := [(2, .int (nI 0)), (0, .ref (a 0)), (1, .int (nI d))]) hx hb dX0_trueNowFor_1 rfl hl (by decide) rfl (fun ls hl => ?_)
  refine lv_iconst (v := (nI 0)) hx hb dX0_trueNowFor_2 (by decide) ?_
  refine lv_istore_n (lv' := [(3, .int (nI 0)), (2, .int (nI 0)), (0, .ref (a 0)), (1, .int (nI d))]) hx hb dX0_trueNowFor_3 rfl hl (by decide) rfl (fun ls hl => ?_)
  have hl : lv_has ls 7 [(3, .int (nI 0)), (2, .int (nI (mk (trD σ d) 0))), (0, .ref (a 0)), (1, .int (nI d))] := by rw [← show (nI 0) = (nI (mk (trD σ d) 0)) from rfl]; exact hl
  refine lp_rd (σ := (Nat)) (fun x9 ls9 => lv_has ls9 7 [(0, .ref (a 0)), (1, .int (nI d)), (2, .int (nI (mk (trD σ d) x9))), (3, .int (nI x9))] ∧ (x9 ≤ σ 1)) (fun x9 => σ 1 - x9) (0) ⟨lv_sub hl [2, 3, 1, 0] rfl, (by omega)⟩ ?_
  rintro s9 ls ⟨hl, hs9⟩ ih4
  try dsimp only at hl hs9 ih4
  refine lv_iload_n hx hb dX0_trueNowFor_4 rfl (lv_at hl 3 rfl) ?_
  refine lv_aload_n hx hb dX0_trueNowFor_5 rfl (lv_at hl 0 rfl) ?_
  refine va_get (D := g) (ci := 0) (v := .ref (a 6)) (C := RX0) (T := TX0) (N := 11) hx hb hts bgX0 hown hK hP 0 rfl rfl 2 (by decide) (hts _ wd2_13) (fun _ h9 => h9) rfl dX0_trueNowFor_6 ?_
  refine rd_call (va_runV (As := []) (rest := [.int (nI s9)]) ⟨hx, hb, hml, hown, hts⟩ (c_X3_count l g cy (a 6) (a 7) s.heap.size 20 6 120 (b 3) (σ 1) ) ⟨(cB 0 hts wd13_15 wd2_11 wd13_12 rfl rfl (by decide +kernel) ⟨Nat.le_of_ble_eq_true rfl, Nat.le_of_ble_eq_true rfl⟩), hts _ wd13_13, hts _ wd13_14⟩ (pv hK hP hD hS hA hX [6, 7] rfl rfl 3 6 rfl rfl) rfl rfl hl.1 rfl (lv_room (Nat.le_of_ble_eq_true rfl)) dX0_trueNowFor_9 ⟨Nat.zero_le _, Nat.zero_le _⟩) ?_
  show W _ _ _ _ _ _ _ _ _ _ _ _ _ _ _ (F0 mX 12 ls [.int (nI (σ 1)), .int (nI s9)])
  refine lv_icmp_ge (tgt := 117) hx hb dX0_trueNowFor_12 (by decide) (fun c_12 => ?_) (fun c_12 => ?_)
  · have c_12 := (nc_le (by omega) (by omega) c_12)
    have e9 : s9 = σ 1 := by omega
    subst e9
    refine lv_iload_n hx hb dX0_trueNowFor_117 rfl (lv_at hl 2 rfl) ?_
    exact rd_i (congrArg nI (by simp [c_12])) hx hb hr dX0_trueNowFor_118 hlk
  · have c_12 := (nc_nle (by omega) (by omega) c_12)
    have hsb := hwf.sb (show s9 < σ 1 by omega)
    refine lv_aload_n hx hb dX0_trueNowFor_15 rfl (lv_at hl 0 rfl) ?_
    refine va_get (D := g) (ci := 0) (v := .ref (a 4)) (C := RX0) (T := TX0) (N := 11) hx hb hts bgX0 hown hK hP 0 rfl rfl 1 (by decide) (hts _ wd2_12) (fun _ h9 => h9) rfl dX0_trueNowFor_16 ?_
    refine lv_iload_n hx hb dX0_trueNowFor_19 rfl (lv_at hl 1 rfl) ?_
    refine lv_iconst (v := (nI 1)) hx hb dX0_trueNowFor_20 (by decide) ?_
    refine rd_call (va_runV (As := [.int (nI d), .int (nI 1)]) (rest := []) ⟨hx, hb, hml, hown, hts⟩ (c_X3_get l g cy (a 4) (a 5) s.heap.size 6 11 66 (b 2) (σ 0) (nI d) 1 (by omega) (by omega) (by omega) (by omega) (by omega) (by omega)) ⟨(cB 2 hts wd13_23 wd2_11 wd13_20 rfl rfl (by decide +kernel) ⟨Nat.le_of_ble_eq_true rfl, Nat.le_of_ble_eq_true rfl⟩), hts _ wd13_21, hts _ wd13_22⟩ (pv hK hP hD hS hA hX [4, 5] rfl rfl 3 4 rfl rfl) rfl rfl hl.1 rfl (lv_room (Nat.le_of_ble_eq_true rfl)) dX0_trueNowFor_21 ⟨Nat.zero_le _, Nat.zero_le _⟩) ?_
    refine ti (show getR (b 2) 11 (σ 0) (nI d) 1 = (nI (dg σ d 1)) from (hbr.gd hn0 (by omega) (by decide))) ?_
    refine lv_aload_n hx hb dX0_trueNowFor_24 rfl (lv_at hl 0 rfl) ?_
    refine va_get (D := g) (ci := 0) (v := .ref (a 6)) (C := RX0) (T := TX0) (N := 11) hx hb hts bgX0 hown hK hP 0 rfl rfl 2 (by decide) (hts _ wd2_13) (fun _ h9 => h9) rfl dX0_trueNowFor_25 ?_
    refine lv_iload_n hx hb dX0_trueNowFor_28 rfl (lv_at hl 3 rfl) ?_
    refine lv_iconst (v := (nI 2)) hx hb dX0_trueNowFor_29 (by decide) ?_
    refine rd_call (va_runV (As := [.int (nI s9), .int (nI 2)]) (rest := [.int (nI (dg σ d 1))]) ⟨hx, hb, hml, hown, hts⟩ (c_X3_get l g cy (a 6) (a 7) s.heap.size 20 6 120 (b 3) (σ 1) (nI s9) 2 (by omega) (by omega) (by omega) (by omega) (by omega) (by omega)) ⟨(cB 2 hts wd13_23 wd2_11 wd13_20 rfl rfl (by decide +kernel) ⟨Nat.le_of_ble_eq_true rfl, Nat.le_of_ble_eq_true rfl⟩), hts _ wd13_21, hts _ wd13_22⟩ (pv hK hP hD hS hA hX [6, 7] rfl rfl 3 6 rfl rfl) rfl rfl hl.1 rfl (lv_room (Nat.le_of_ble_eq_true rfl)) dX0_trueNowFor_30 ⟨Nat.zero_le _, Nat.zero_le _⟩) ?_
    refine ti (show getR (b 3) 6 (σ 1) (nI s9) 2 = (nI (sg σ s9 2)) from (hbr.gs hn1 (by omega) (by decide))) ?_
    refine lv_aload_n hx hb dX0_trueNowFor_33 rfl (lv_at hl 0 rfl) ?_
    refine va_get (D := g) (ci := 0) (v := .ref (a 4)) (C := RX0) (T := TX0) (N := 11) hx hb hts bgX0 hown hK hP 0 rfl rfl 1 (by decide) (hts _ wd2_12) (fun _ h9 => h9) rfl dX0_trueNowFor_34 ?_
    refine lv_iload_n hx hb dX0_trueNowFor_37 rfl (lv_at hl 1 rfl) ?_
    refine lv_iconst (v := (nI 3)) hx hb dX0_trueNowFor_38 (by decide) ?_
    refine rd_call (va_runV (As := [.int (nI d), .int (nI 3)]) (rest := [.int (nI (sg σ s9 2)), .int (nI (dg σ d 1))]) ⟨hx, hb, hml, hown, hts⟩ (c_X3_get l g cy (a 4) (a 5) s.heap.size 6 11 66 (b 2) (σ 0) (nI d) 3 (by omega) (by omega) (by omega) (by omega) (by omega) (by omega)) ⟨(cB 2 hts wd13_23 wd2_11 wd13_20 rfl rfl (by decide +kernel) ⟨Nat.le_of_ble_eq_true rfl, Nat.le_of_ble_eq_true rfl⟩), hts _ wd13_21, hts _ wd13_22⟩ (pv hK hP hD hS hA hX [4, 5] rfl rfl 3 4 rfl rfl) rfl rfl hl.1 rfl (lv_room (Nat.le_of_ble_eq_true rfl)) dX0_trueNowFor_39 ⟨Nat.zero_le _, Nat.zero_le _⟩) ?_
    refine ti (show getR (b 2) 11 (σ 0) (nI d) 3 = (nI (dg σ d 3)) from (hbr.gd hn0 (by omega) (by decide))) ?_
    refine lv_isub hx hb dX0_trueNowFor_42 ?_
    refine lv_imul hx hb dX0_trueNowFor_43 ?_
    refine lv_istore (lv' := [(4, .int ((nI (dg σ d 1)) * ((nI (sg σ s9 2)) - (nI (dg σ d 3))))), (0, .ref (a 0)), (1, .int (nI d)), (2, .int (nI (mk (trD σ d) s9))), (3, .int (nI s9))]) hx hb dX0_trueNowFor_44 hl (by decide) rfl (fun ls hl => ?_)
    refine lv_aload_n hx hb dX0_trueNowFor_46 rfl (lv_at hl 1 rfl) ?_
    refine va_get (D := g) (ci := 0) (v := .ref (a 6)) (C := RX0) (T := TX0) (N := 11) hx hb hts bgX0 hown hK hP 0 rfl rfl 2 (by decide) (hts _ wd2_13) (fun _ h9 => h9) rfl dX0_trueNowFor_47 ?_
    refine lv_iload_n hx hb dX0_trueNowFor_50 rfl (lv_at hl 4 rfl) ?_
    refine lv_iconst (v := (nI 1)) hx hb dX0_trueNowFor_51 (by decide) ?_
    refine rd_call (va_runV (As := [.int (nI s9), .int (nI 1)]) (rest := []) ⟨hx, hb, hml, hown, hts⟩ (c_X3_get l g cy (a 6) (a 7) s.heap.size 20 6 120 (b 3) (σ 1) (nI s9) 1 (by omega) (by omega) (by omega) (by omega) (by omega) (by omega)) ⟨(cB 2 hts wd13_23 wd2_11 wd13_20 rfl rfl (by decide +kernel) ⟨Nat.le_of_ble_eq_true rfl, Nat.le_of_ble_eq_true rfl⟩), hts _ wd13_21, hts _ wd13_22⟩ (pv hK hP hD hS hA hX [6, 7] rfl rfl 3 6 rfl rfl) rfl rfl hl.1 rfl (lv_room (Nat.le_of_ble_eq_true rfl)) dX0_trueNowFor_52 ⟨Nat.zero_le _, Nat.zero_le _⟩) ?_
    refine ti (show getR (b 3) 6 (σ 1) (nI s9) 1 = (nI (sg σ s9 1)) from (hbr.gs hn1 (by omega) (by decide))) ?_
    refine lv_istore (lv' := [(5, .int (nI (sg σ s9 1))), (4, .int ((nI (dg σ d 1)) * ((nI (sg σ s9 2)) - (nI (dg σ d 3))))), (0, .ref (a 0)), (1, .int (nI d)), (2, .int (nI (mk (trD σ d) s9))), (3, .int (nI s9))]) hx hb dX0_trueNowFor_55 hl (by decide) rfl (fun ls hl => ?_)
    refine jn_i (pcj := 75) (ls := ls) (st := []) (fun v9 => v9 = (bI (mng σ d s9))) ?_ (fun jn75 => ?_)
    · intro v9 hv9
      subst hv9
      refine lv_istore (lv' := [(6, .int (bI (mng σ d s9))), (5, .int (nI (sg σ s9 1))), (4, .int ((nI (dg σ d 1)) * ((nI (sg σ s9 2)) - (nI (dg σ d 3))))), (0, .ref (a 0)), (1, .int (nI d)), (2, .int (nI (mk (trD σ d) s9))), (3, .int (nI s9))]) hx hb dX0_trueNowFor_75 hl (by decide) rfl (fun ls hl => ?_)
      refine lv_iload hx hb dX0_trueNowFor_77 (lv_at hl 0 rfl) ?_
      refine lv_if_eq (tgt := 111) hx hb dX0_trueNowFor_79 (by decide) (fun c_79 => ?_) (fun c_79 => ?_)
      · have c_79 := (bI_eq0.mp c_79)
        have hl : lv_has ls 7 [(6, .int (bI (mng σ d s9))), (5, .int (nI (sg σ s9 1))), (4, .int ((nI (dg σ d 1)) * ((nI (sg σ s9 2)) - (nI (dg σ d 3))))), (0, .ref (a 0)), (1, .int (nI d)), (2, .int (nI (mk (trD σ d) (s9 + 1)))), (3, .int (nI s9))] := by rw [← show (nI (mk (trD σ d) s9)) = (nI (mk (trD σ d) (s9 + 1))) from (congrArg nI (mk_s0 (by simp [trD, c_79])).symm)]; exact hl
        refine lv_iinc (v := (nI (s9 + 1))) (lv' := [(3, .int (nI (s9 + 1))), (6, .int (bI (mng σ d s9))), (5, .int (nI (sg σ s9 1))), (4, .int ((nI (dg σ d 1)) * ((nI (sg σ s9 2)) - (nI (dg σ d 3))))), (0, .ref (a 0)), (1, .int (nI d)), (2, .int (nI (mk (trD σ d) (s9 + 1))))]) hx hb dX0_trueNowFor_111 hl (k := 6) rfl (nI_add s9 1) (by decide) rfl (fun ls hl => ?_)
        refine lv_goto (tgt := 4) hx hb dX0_trueNowFor_114 (by decide) ?_
        exact ih4 (s9 + 1) ls ⟨lv_sub hl [4, 5, 6, 0] rfl, (by omega)⟩ (by first | omega | (dsimp only; omega))
      · have c_79 := (bI_ne0.mp c_79)
        refine lv_aload_n hx hb dX0_trueNowFor_82 rfl (lv_at hl 3 rfl) ?_
        refine va_get (D := g) (ci := 0) (v := .ref (a 1)) (C := RX0) (T := TX0) (N := 11) hx hb hts bgX0 hown hK hP 0 rfl rfl 0 (by decide) (hts _ wd2_8) (fun _ h9 => h9) rfl dX0_trueNowFor_83 ?_
        refine lv_aload_n hx hb dX0_trueNowFor_86 rfl (lv_at hl 3 rfl) ?_
        refine va_get (D := g) (ci := 0) (v := .ref (a 4)) (C := RX0) (T := TX0) (N := 11) hx hb hts bgX0 hown hK hP 0 rfl rfl 1 (by decide) (hts _ wd2_12) (fun _ h9 => h9) rfl dX0_trueNowFor_87 ?_
        refine lv_iload_n hx hb dX0_trueNowFor_90 rfl (lv_at hl 4 rfl) ?_
        refine lv_iconst (v := (nI 2)) hx hb dX0_trueNowFor_91 (by decide) ?_
        refine rd_call (va_runV (As := [.int (nI d), .int (nI 2)]) (rest := [.ref (a 1)]) ⟨hx, hb, hml, hown, hts⟩ (c_X3_get l g cy (a 4) (a 5) s.heap.size 6 11 66 (b 2) (σ 0) (nI d) 2 (by omega) (by omega) (by omega) (by omega) (by omega) (by omega)) ⟨(cB 2 hts wd13_23 wd2_11 wd13_20 rfl rfl (by decide +kernel) ⟨Nat.le_of_ble_eq_true rfl, Nat.le_of_ble_eq_true rfl⟩), hts _ wd13_21, hts _ wd13_22⟩ (pv hK hP hD hS hA hX [4, 5] rfl rfl 3 4 rfl rfl) rfl rfl hl.1 rfl (lv_room (Nat.le_of_ble_eq_true rfl)) dX0_trueNowFor_92 ⟨Nat.zero_le _, Nat.zero_le _⟩) ?_
        refine ti (show getR (b 2) 11 (σ 0) (nI d) 2 = (nI (dg σ d 2)) from (hbr.gd hn0 (by omega) (by decide))) ?_
        refine lv_iload hx hb dX0_trueNowFor_95 (lv_at hl 1 rfl) ?_
        have hmn : sg σ s9 5 = d := by simpa [mng] using c_79
        have hml9 := hwf.mean (show s9 < σ 1 by omega) hd hmn
        have hp97 : dg σ d 1 * (sg σ s9 2 - dg σ d 3) ≤ 300000 := mul_le_of (show dg σ d 1 ≤ 3 by omega) (show sg σ s9 2 - dg σ d 3 ≤ 100000 by omega) (by decide)
        refine lv_iload hx hb dX0_trueNowFor_97 (lv_at hl 2 rfl) ?_
        refine ti (show ((nI (dg σ d 1)) * ((nI (sg σ s9 2)) - (nI (dg σ d 3)))) = (nI (dg σ d 1 * (sg σ s9 2 - dg σ d 3))) from (by rw [pk_sub hml9, pk_mul])) ?_
        refine rd_call (va_runV (As := [.int (nI (dg σ d 2)), .int (nI (sg σ s9 1)), .int (nI (dg σ d 1 * (sg σ s9 2 - dg σ d 3)))]) (rest := []) ⟨hx, hb, hml, hown, hts⟩ (c_X2_isWithin l g cy (a 1) (a 2) (a 3) s.heap.size σ (wv σ) (b 1) (cmk σ) (dg σ d 2) (sg σ s9 1) (dg σ d 1 * (sg σ s9 2 - dg σ d 3)) (fun _ _ => rfl) (by omega) (by omega) (by omega)) ⟨(cB 3 hts wd15_18 wd2_7 wd15_15 rfl rfl (by decide +kernel) ⟨Nat.le_of_ble_eq_true rfl, Nat.le_of_ble_eq_true rfl⟩), hts _ wd15_16, hts _ wd15_17⟩ (pv hK hP hD hS hA hX [1, 2, 3] rfl rfl 2 1 rfl rfl) rfl rfl hl.1 rfl (lv_room (Nat.le_of_ble_eq_true rfl)) dX0_trueNowFor_99 ⟨Nat.zero_le _, Nat.zero_le _⟩) ?_
        show W _ _ _ _ _ _ _ _ _ _ _ _ _ _ _ (F0 mX 102 ls [.int (bI (rch σ (dg σ d 2) (sg σ s9 1) (dg σ d 1 * (sg σ s9 2 - dg σ d 3))))])
        refine lv_if_eq (tgt := 111) hx hb dX0_trueNowFor_102 (by decide) (fun c_102 => ?_) (fun c_102 => ?_)
        · have c_102 := (bI_eq0.mp c_102)
          have hl : lv_has ls 7 [(6, .int (bI (mng σ d s9))), (5, .int (nI (sg σ s9 1))), (4, .int ((nI (dg σ d 1)) * ((nI (sg σ s9 2)) - (nI (dg σ d 3))))), (0, .ref (a 0)), (1, .int (nI d)), (2, .int (nI (mk (trD σ d) (s9 + 1)))), (3, .int (nI s9))] := by rw [← show (nI (mk (trD σ d) s9)) = (nI (mk (trD σ d) (s9 + 1))) from (congrArg nI (mk_s0 (by simp [trD, tru, hmn, hm, c_79, c_102])).symm)]; exact hl
          refine lv_iinc (v := (nI (s9 + 1))) (lv' := [(3, .int (nI (s9 + 1))), (6, .int (bI (mng σ d s9))), (5, .int (nI (sg σ s9 1))), (4, .int ((nI (dg σ d 1)) * ((nI (sg σ s9 2)) - (nI (dg σ d 3))))), (0, .ref (a 0)), (1, .int (nI d)), (2, .int (nI (mk (trD σ d) (s9 + 1))))]) hx hb dX0_trueNowFor_111 hl (k := 6) rfl (nI_add s9 1) (by decide) rfl (fun ls hl => ?_)
          refine lv_goto (tgt := 4) hx hb dX0_trueNowFor_114 (by decide) ?_
          exact ih4 (s9 + 1) ls ⟨lv_sub hl [4, 5, 6, 0] rfl, (by omega)⟩ (by first | omega | (dsimp only; omega))
        · have c_102 := (bI_ne0.mp c_102)
          refine lv_iload_n hx hb dX0_trueNowFor_105 rfl (lv_at hl 5 rfl) ?_
          refine lv_iconst (v := (nI 1)) hx hb dX0_trueNowFor_106 (by decide) ?_
          refine lv_iload_n hx hb dX0_trueNowFor_107 rfl (lv_at hl 6 rfl) ?_
          refine lv_ishl hx hb dX0_trueNowFor_108 ?_
          refine ti (nb_shl (k := s9) (by omega)) ?_
          refine lv_ior hx hb dX0_trueNowFor_109 ?_
          refine ti (nx_or (mk (trD σ d) s9) (2 ^ s9)) ?_
          refine lv_istore_n (lv' := [(2, .int (nI ((mk (trD σ d) s9) ||| (2 ^ s9)))), (6, .int (bI (mng σ d s9))), (5, .int (nI (sg σ s9 1))), (4, .int ((nI (dg σ d 1)) * ((nI (sg σ s9 2)) - (nI (dg σ d 3))))), (0, .ref (a 0)), (1, .int (nI d)), (3, .int (nI s9))]) hx hb dX0_trueNowFor_110 rfl hl (by decide) rfl (fun ls hl => ?_)
          have hl : lv_has ls 7 [(2, .int (nI (mk (trD σ d) (s9 + 1)))), (6, .int (bI (mng σ d s9))), (5, .int (nI (sg σ s9 1))), (4, .int ((nI (dg σ d 1)) * ((nI (sg σ s9 2)) - (nI (dg σ d 3))))), (0, .ref (a 0)), (1, .int (nI d)), (3, .int (nI s9))] := by rw [← show (nI ((mk (trD σ d) s9) ||| (2 ^ s9))) = (nI (mk (trD σ d) (s9 + 1))) from (congrArg nI (mk_top (by simp [trD, tru, hmn, hm, c_79, c_102])))]; exact hl
          refine lv_iinc (v := (nI (s9 + 1))) (lv' := [(3, .int (nI (s9 + 1))), (2, .int (nI (mk (trD σ d) (s9 + 1)))), (6, .int (bI (mng σ d s9))), (5, .int (nI (sg σ s9 1))), (4, .int ((nI (dg σ d 1)) * ((nI (sg σ s9 2)) - (nI (dg σ d 3))))), (0, .ref (a 0)), (1, .int (nI d))]) hx hb dX0_trueNowFor_111 hl (k := 6) rfl (nI_add s9 1) (by decide) rfl (fun ls hl => ?_)
          refine lv_goto (tgt := 4) hx hb dX0_trueNowFor_114 (by decide) ?_
          exact ih4 (s9 + 1) ls ⟨lv_sub hl [5, 6, 1, 0] rfl, (by omega)⟩ (by first | omega | (dsimp only; omega))
    · skip
      refine lv_aload_n hx hb dX0_trueNowFor_57 rfl (lv_at hl 2 rfl) ?_
      refine va_get (D := g) (ci := 0) (v := .ref (a 6)) (C := RX0) (T := TX0) (N := 11) hx hb hts bgX0 hown hK hP 0 rfl rfl 2 (by decide) (hts _ wd2_13) (fun _ h9 => h9) rfl dX0_trueNowFor_58 ?_
      refine lv_iload_n hx hb dX0_trueNowFor_61 rfl (lv_at hl 5 rfl) ?_
      refine lv_iconst (v := (nI 5)) hx hb dX0_trueNowFor_62 (by decide) ?_
      refine rd_call (va_runV (As := [.int (nI s9), .int (nI 5)]) (rest := []) ⟨hx, hb, hml, hown, hts⟩ (c_X3_get l g cy (a 6) (a 7) s.heap.size 20 6 120 (b 3) (σ 1) (nI s9) 5 (by omega) (by omega) (by omega) (by omega) (by omega) (by omega)) ⟨(cB 2 hts wd13_23 wd2_11 wd13_20 rfl rfl (by decide +kernel) ⟨Nat.le_of_ble_eq_true rfl, Nat.le_of_ble_eq_true rfl⟩), hts _ wd13_21, hts _ wd13_22⟩ (pv hK hP hD hS hA hX [6, 7] rfl rfl 3 6 rfl rfl) rfl rfl hl.1 rfl (lv_room (Nat.le_of_ble_eq_true rfl)) dX0_trueNowFor_63 ⟨Nat.zero_le _, Nat.zero_le _⟩) ?_
      refine ti (show getR (b 3) 6 (σ 1) (nI s9) 5 = (nI (sg σ s9 5)) from (hbr.gs hn1 (by omega) (by decide))) ?_
      refine lv_iload_n hx hb dX0_trueNowFor_66 rfl (lv_at hl 3 rfl) ?_
      refine lv_icmp_ne (tgt := 74) hx hb dX0_trueNowFor_67 (by decide) (fun c_67 => ?_) (fun c_67 => ?_)
      · have c_67 := (nc_ne9 (by omega) (by omega) c_67)
        refine lv_iconst (v := (nI 0)) hx hb dX0_trueNowFor_74 (by decide) ?_
        exact jn75 _ (by simp [mng, bI, nI_0, nI_o, c_67])
      · have c_67 := (nc_eq9 (by omega) (by omega) c_67)
        refine lv_iconst (v := (nI 1)) hx hb dX0_trueNowFor_70 (by decide) ?_
        refine lv_goto (tgt := 75) hx hb dX0_trueNowFor_71 (by decide) ?_
        exact jn75 _ (by simp [mng, bI, nI_0, nI_o, c_67])
set_option maxHeartbeats 4000000 in
set_option maxRecDepth 100000 in
theorem c_X0_trueFor (l : Launch) (g : va_G) (cy : Nat → ClassId) (sz : Nat) (a : Nat → Nat) (σ : Nat → Nat) (b : Nat → Nat → Int32) (bd : Nat) (d : Nat) (hwf : WF bd σ) (hbr : BR σ b) (hd : d < σ 0) : Met l yX0_trueFor (Cond.code yX0_trueFor cX0_trueFor 2 (some .int) :: wsL_law) ({ frames := 2, cells := 0, slots := 0, locals := 50 } : Room) (va_Pc [.ref (a 0), .int (nI d)] (pr g cy [(a 0, .inr (0, [.ref (a 1), .ref (a 4), .ref (a 6), .ref (a 8), .ref (a 9), .int (nI (σ 2)), .int (nI (σ 3)), .int (nI (σ 4)), .int (nI (σ 5)), .int (nI (σ 6)), .int (nI (σ 7))])), (a 1, .inr (2, [.ref (a 2), .ref (a 3), .int (nI (cmk σ))])), aI cy (a 2) 144 (wv σ), aI cy (a 3) 12 (b 1), (a 4, .inr (3, [.int (nI 6), .int (nI 11), .ref (a 5), .int (nI (σ 0))])), aI cy (a 5) 66 (b 2), (a 6, .inr (3, [.int (nI 20), .int (nI 6), .ref (a 7), .int (nI (σ 1))])), aI cy (a 7) 120 (b 3), aI cy (a 8) 8 (mS (pu σ)), aI cy (a 9) 6 (b 5)] sz)) (rd_Q (some (.int (nI (mk (trD σ d) (σ 1)))))) 0 0 (nF) := by
  refine mt_of (cc := cX0_trueFor) (maxL := 2) (ret := (some .int)) (by decide +kernel) (Nat.le_of_ble_eq_true rfl) ?_
  intro pX eX s mX below meth cX ls A hx hb hr hml hown hts hlk hin hsz hAe hA hP hD hK hX hl
  have hl : lv_has ls 2 [(0, .ref (a 0)), (1, .int (nI d))] := hl
  have hS : va_S A s.heap s.heap [] := va_S.rf
  have hn0 := hwf.n0
  have hn1 := hwf.n1
  have hh2 := hwf.h2
  have hdb := hwf.db hd
  refine lv_aload_n hx hb dX0_trueFor_0 rfl (lv_at hl 0 rfl) ?_
  refine lv_iload_n hx hb dX0_trueFor_1 rfl (lv_at hl 1 rfl) ?_
  refine rd_call (va_runV (As := [.int (nI d)]) (rest := []) ⟨hx, hb, hml, hown, hts⟩ (c_X0_isMissing l g cy  s.heap.size a σ b bd d hwf hbr (by omega)) ⟨(cB 1 hts wd13_19 wd1_12 wd13_16 rfl rfl (by decide +kernel) ⟨Nat.le_of_ble_eq_true rfl, Nat.le_of_ble_eq_true rfl⟩), hts _ wd13_17, hts _ wd13_18⟩ (pv hK hP hD hS hA hX [0, 1, 2, 3, 4, 5, 6, 7, 8, 9] rfl rfl 0 0 rfl rfl) rfl rfl hl.1 rfl (lv_room (Nat.le_of_ble_eq_true rfl)) dX0_trueFor_2 ⟨Nat.zero_le _, Nat.zero_le _⟩) ?_
  show W _ _ _ _ _ _ _ _ _ _ _ _ _ _ _ (F0 mX 5 ls [.int (bI (decide (d < σ 0) && msg σ d))])
  refine ti (show (bI (decide (d < σ 0) && msg σ d)) = (bI (msg σ d)) from (by simp [show d < σ 0 from (by omega)])) ?_
  refine lv_if_eq (tgt := 16) hx hb dX0_trueFor_5 (by decide) (fun c_5 => ?_) (fun c_5 => ?_)
  · have c_5 := (bI_eq0.mp c_5)
    refine lv_aload_n hx hb dX0_trueFor_16 rfl (lv_at hl 0 rfl) ?_
    refine va_get (D := g) (ci := 0) (v := .ref (a 4)) (C := RX0) (T := TX0) (N := 11) hx hb hts bgX0 hown hK hP 0 rfl rfl 1 (by decide) (hts _ wd2_12) (fun _ h9 => h9) rfl dX0_trueFor_17 ?_
    refine lv_iload_n hx hb dX0_trueFor_20 rfl (lv_at hl 1 rfl) ?_
    refine lv_bipush (v := (nI 9)) hx hb dX0_trueFor_21 (by decide) ?_
    refine rd_call (va_runV (As := [.int (nI d), .int (nI 9)]) (rest := []) ⟨hx, hb, hml, hown, hts⟩ (c_X3_get l g cy (a 4) (a 5) s.heap.size 6 11 66 (b 2) (σ 0) (nI d) 9 (by omega) (by omega) (by omega) (by omega) (by omega) (by omega)) ⟨(cB 2 hts wd13_23 wd2_11 wd13_20 rfl rfl (by decide +kernel) ⟨Nat.le_of_ble_eq_true rfl, Nat.le_of_ble_eq_true rfl⟩), hts _ wd13_21, hts _ wd13_22⟩ (pv hK hP hD hS hA hX [4, 5] rfl rfl 3 4 rfl rfl) rfl rfl hl.1 rfl (lv_room (Nat.le_of_ble_eq_true rfl)) dX0_trueFor_23 ⟨Nat.zero_le _, Nat.zero_le _⟩) ?_
    refine ti (show getR (b 2) 11 (σ 0) (nI d) 9 = (nI (mk (stT σ d) (σ 1))) from (hbr.g9 hn0 (by omega) c_5)) ?_
    refine ti (show (nI (mk (stT σ d) (σ 1))) = (nI (mk (trD σ d) (σ 1))) from (congrArg nI (st_tr c_5))) ?_
    exact rd_i rfl hx hb hr dX0_trueFor_26 hlk
  · have c_5 := (bI_ne0.mp c_5)
    refine lv_aload_n hx hb dX0_trueFor_8 rfl (lv_at hl 0 rfl) ?_
    refine lv_iload_n hx hb dX0_trueFor_9 rfl (lv_at hl 1 rfl) ?_
    refine rd_call (va_runV (As := [.int (nI d)]) (rest := []) ⟨hx, hb, hml, hown, hts⟩ (c_X0_trueNowFor l g cy  s.heap.size a σ b bd d hwf hbr (by omega) c_5) ⟨(cB 1 hts wd15_14 wd1_12 wd15_11 rfl rfl (by decide +kernel) ⟨Nat.le_of_ble_eq_true rfl, Nat.le_of_ble_eq_true rfl⟩), hts _ wd15_12, hts _ wd15_13⟩ (pv hK hP hD hS hA hX [0, 1, 2, 3, 4, 5, 6, 7, 8, 9] rfl rfl 0 0 rfl rfl) rfl rfl hl.1 rfl (lv_room (Nat.le_of_ble_eq_true rfl)) dX0_trueFor_10 ⟨Nat.zero_le _, Nat.zero_le _⟩) ?_
    show W _ _ _ _ _ _ _ _ _ _ _ _ _ _ _ (F0 mX 13 ls [.int (nI (mk (trD σ d) (σ 1)))])
    refine lv_goto (tgt := 26) hx hb dX0_trueFor_13 (by decide) ?_
    exact rd_i rfl hx hb hr dX0_trueFor_26 hlk
set_option maxHeartbeats 4000000 in
set_option maxRecDepth 100000 in
theorem c_X0_fitsOneOf (l : Launch) (g : va_G) (cy : Nat → ClassId) (sz : Nat) (a : Nat → Nat) (σ : Nat → Nat) (b : Nat → Nat → Int32) (bd : Nat) (ot : Nat) (s9 : Nat) (p : Nat) (hwf : WF bd σ) (hbr : BR σ b) (hot : ot < 2 ^ 31) (hs : s9 < σ 1) (hp9 : p ≤ 3) : Met l yX0_fitsOneOf (Cond.code yX0_fitsOneOf cX0_fitsOneOf 6 (some .boolean) :: wsL_law) ({ frames := 1, cells := 0, slots := 0, locals := 24 } : Room) (va_Pc [.ref (a 0), .int (nI ot), .int (nI s9), .int (nI p)] (pr g cy [(a 0, .inr (0, [.ref (a 1), .ref (a 4), .ref (a 6), .ref (a 8), .ref (a 9), .int (nI (σ 2)), .int (nI (σ 3)), .int (nI (σ 4)), .int (nI (σ 5)), .int (nI (σ 6)), .int (nI (σ 7))])), (a 1, .inr (2, [.ref (a 2), .ref (a 3), .int (nI (cmk σ))])), aI cy (a 2) 144 (wv σ), aI cy (a 3) 12 (b 1), (a 4, .inr (3, [.int (nI 6), .int (nI 11), .ref (a 5), .int (nI (σ 0))])), aI cy (a 5) 66 (b 2), (a 6, .inr (3, [.int (nI 20), .int (nI 6), .ref (a 7), .int (nI (σ 1))])), aI cy (a 7) 120 (b 3), aI cy (a 8) 8 (mS (pu σ)), aI cy (a 9) 6 (b 5)] sz)) (rd_Q (some (.int (bI (ex (fo1 σ ot s9 p) (σ 1)))))) 0 0 (nF) := by
  refine mt_of (cc := cX0_fitsOneOf) (maxL := 6) (ret := (some .boolean)) (by decide +kernel) (Nat.le_of_ble_eq_true rfl) ?_
  intro pX eX s mX below meth cX ls A hx hb hr hml hown hts hlk hin hsz hAe hA hP hD hK hX hl
  have hl : lv_has ls 6 [(0, .ref (a 0)), (1, .int (nI ot)), (2, .int (nI s9)), (3, .int (nI p))] := hl
  have hS : va_S A s.heap s.heap [] := va_S.rf
  have hn0 := hwf.n0
  have hn1 := hwf.n1
  have hh2 := hwf.h2
  have hsb := hwf.sb hs
  refine lv_iconst (v := (nI 0)) hx hb dX0_fitsOneOf_0 (by decide) ?_
  refine lv_istore (lv' := [(4, .int (nI 0)), (0, .ref (a 0)), (1, .int (nI ot)), (2, .int (nI s9)), (3, .int (nI p))]) hx hb dX0_fitsOneOf_1 hl (by decide) rfl (fun ls hl => ?_)
  refine lp_rd (σ := (Nat)) (fun x9 ls9 => lv_has ls9 6 [(0, .ref (a 0)), (1, .int (nI ot)), (2, .int (nI s9)), (3, .int (nI p)), (4, .int (nI x9))] ∧ (x9 ≤ σ 1) ∧ (ex (fo1 σ ot s9 p) x9 = false)) (fun x9 => σ 1 - x9) (0) ⟨lv_sub hl [1, 2, 3, 4, 0] rfl, (by omega), rfl⟩ ?_
  rintro o ls ⟨hl, ho, he⟩ ih3
  try dsimp only at hl ho he ih3
  refine lv_iload hx hb dX0_fitsOneOf_3 (lv_at hl 4 rfl) ?_
  refine lv_aload_n hx hb dX0_fitsOneOf_5 rfl (lv_at hl 0 rfl) ?_
  refine va_get (D := g) (ci := 0) (v := .ref (a 6)) (C := RX0) (T := TX0) (N := 11) hx hb hts bgX0 hown hK hP 0 rfl rfl 2 (by decide) (hts _ wd2_13) (fun _ h9 => h9) rfl dX0_fitsOneOf_6 ?_
  refine rd_call (va_runV (As := []) (rest := [.int (nI o)]) ⟨hx, hb, hml, hown, hts⟩ (c_X3_count l g cy (a 6) (a 7) s.heap.size 20 6 120 (b 3) (σ 1) ) ⟨(cB 0 hts wd13_15 wd2_11 wd13_12 rfl rfl (by decide +kernel) ⟨Nat.le_of_ble_eq_true rfl, Nat.le_of_ble_eq_true rfl⟩), hts _ wd13_13, hts _ wd13_14⟩ (pv hK hP hD hS hA hX [6, 7] rfl rfl 3 6 rfl rfl) rfl rfl hl.1 rfl (lv_room (Nat.le_of_ble_eq_true rfl)) dX0_fitsOneOf_9 ⟨Nat.zero_le _, Nat.zero_le _⟩) ?_
  show W _ _ _ _ _ _ _ _ _ _ _ _ _ _ _ (F0 mX 12 ls [.int (nI (σ 1)), .int (nI o)])
  refine lv_icmp_ge (tgt := 90) hx hb dX0_fitsOneOf_12 (by decide) (fun c_12 => ?_) (fun c_12 => ?_)
  · have c_12 := (nc_le (by omega) (by omega) c_12)
    have e9 : o = σ 1 := by omega
    subst e9
    refine lv_iconst (v := (nI 0)) hx hb dX0_fitsOneOf_90 (by decide) ?_
    exact rd_z (by rw [he]; rfl) hx hb hr dX0_fitsOneOf_91 hlk
  · have c_12 := (nc_nle (by omega) (by omega) c_12)
    have hob := hwf.sb (show o < σ 1 by omega)
    have had : ad (sg σ s9 2) (sg σ o 2) ≤ 100000 := by unfold ad; split <;> omega
    have hpa : p * ad (sg σ s9 2) (sg σ o 2) ≤ 300000 := mul_le_of hp9 had (by decide)
    refine lv_aload_n hx hb dX0_fitsOneOf_15 rfl (lv_at hl 0 rfl) ?_
    refine va_get (D := g) (ci := 0) (v := .ref (a 6)) (C := RX0) (T := TX0) (N := 11) hx hb hts bgX0 hown hK hP 0 rfl rfl 2 (by decide) (hts _ wd2_13) (fun _ h9 => h9) rfl dX0_fitsOneOf_16 ?_
    refine lv_iload_n hx hb dX0_fitsOneOf_19 rfl (lv_at hl 2 rfl) ?_
    refine lv_iconst (v := (nI 2)) hx hb dX0_fitsOneOf_20 (by decide) ?_
    refine rd_call (va_runV (As := [.int (nI s9), .int (nI 2)]) (rest := []) ⟨hx, hb, hml, hown, hts⟩ (c_X3_get l g cy (a 6) (a 7) s.heap.size 20 6 120 (b 3) (σ 1) (nI s9) 2 (by omega) (by omega) (by omega) (by omega) (by omega) (by omega)) ⟨(cB 2 hts wd13_23 wd2_11 wd13_20 rfl rfl (by decide +kernel) ⟨Nat.le_of_ble_eq_true rfl, Nat.le_of_ble_eq_true rfl⟩), hts _ wd13_21, hts _ wd13_22⟩ (pv hK hP hD hS hA hX [6, 7] rfl rfl 3 6 rfl rfl) rfl rfl hl.1 rfl (lv_room (Nat.le_of_ble_eq_true rfl)) dX0_fitsOneOf_21 ⟨Nat.zero_le _, Nat.zero_le _⟩) ?_
    refine ti (show getR (b 3) 6 (σ 1) (nI s9) 2 = (nI (sg σ s9 2)) from (hbr.gs hn1 (by omega) (by decide))) ?_
    refine lv_aload_n hx hb dX0_fitsOneOf_24 rfl (lv_at hl 0 rfl) ?_
    refine va_get (D := g) (ci := 0) (v := .ref (a 6)) (C := RX0) (T := TX0) (N := 11) hx hb hts bgX0 hown hK hP 0 rfl rfl 2 (by decide) (hts _ wd2_13) (fun _ h9 => h9) rfl dX0_fitsOneOf_25 ?_
    refine lv_iload hx hb dX0_fitsOneOf_28 (lv_at hl 4 rfl) ?_
    refine lv_iconst (v := (nI 2)) hx hb dX0_fitsOneOf_30 (by decide) ?_
    refine rd_call (va_runV (As := [.int (nI o), .int (nI 2)]) (rest := [.int (nI (sg σ s9 2))]) ⟨hx, hb, hml, hown, hts⟩ (c_X3_get l g cy (a 6) (a 7) s.heap.size 20 6 120 (b 3) (σ 1) (nI o) 2 (by omega) (by omega) (by omega) (by omega) (by omega) (by omega)) ⟨(cB 2 hts wd13_23 wd2_11 wd13_20 rfl rfl (by decide +kernel) ⟨Nat.le_of_ble_eq_true rfl, Nat.le_of_ble_eq_true rfl⟩), hts _ wd13_21, hts _ wd13_22⟩ (pv hK hP hD hS hA hX [6, 7] rfl rfl 3 6 rfl rfl) rfl rfl hl.1 rfl (lv_room (Nat.le_of_ble_eq_true rfl)) dX0_fitsOneOf_31 ⟨Nat.zero_le _, Nat.zero_le _⟩) ?_
    refine ti (show getR (b 3) 6 (σ 1) (nI o) 2 = (nI (sg σ o 2)) from (hbr.gs hn1 (by omega) (by decide))) ?_
    refine lv_isub hx hb dX0_fitsOneOf_34 ?_
    refine va_mabs hx hb (by rw [hml]; exact hl.1.symm) hown (hts _ wd16_7) (hts _ wd16_8) (hts _ wd3_6) (hts _ wd16_9) (Nat.le_of_ble_eq_true rfl) (Nat.le_of_ble_eq_true rfl) (Nat.zero_le _) (Nat.zero_le _) dX0_fitsOneOf_35 ?_
    refine ti (show (if 0 ≤ ((nI (sg σ s9 2)) - (nI (sg σ o 2))) then ((nI (sg σ s9 2)) - (nI (sg σ o 2))) else 0 - ((nI (sg σ s9 2)) - (nI (sg σ o 2)))) = (nI (ad (sg σ s9 2) (sg σ o 2))) from (abs_ad (by omega) (by omega))) ?_
    refine lv_istore (lv' := [(5, .int (nI (ad (sg σ s9 2) (sg σ o 2)))), (0, .ref (a 0)), (1, .int (nI ot)), (2, .int (nI s9)), (3, .int (nI p)), (4, .int (nI o))]) hx hb dX0_fitsOneOf_38 hl (by decide) rfl (fun ls hl => ?_)
    refine lv_iload_n hx hb dX0_fitsOneOf_40 rfl (lv_at hl 2 rfl) ?_
    refine lv_iload hx hb dX0_fitsOneOf_41 (lv_at hl 5 rfl) ?_
    refine rd_call (va_runSN (As := [.int (nI ot), .int (nI o)]) (rest := []) ⟨hx, hb, hml, hown, hts⟩ (c_X7_hasBit l ot o (by omega) (by omega)) ⟨va_cnB 2 hts (bg_call wd5_0) rfl rfl rfl (nM_8 hX) (hts _ wd1_2) (by decide +kernel) ⟨Nat.le_of_ble_eq_true rfl, Nat.le_of_ble_eq_true rfl⟩, hts _ wd4_23, trivial⟩ p0 rfl rfl hl.1 rfl (lv_room (Nat.le_of_ble_eq_true rfl)) dX0_fitsOneOf_43 ⟨Nat.zero_le _, Nat.zero_le _⟩) ?_
    show W _ _ _ _ _ _ _ _ _ _ _ _ _ _ _ (F0 mX 46 ls [.int (bI (ot.testBit o))])
    refine lv_if_eq (tgt := 84) hx hb dX0_fitsOneOf_46 (by decide) (fun c_46 => ?_) (fun c_46 => ?_)
    · have c_46 := (bI_eq0.mp c_46)
      refine lv_iinc (v := (nI (o + 1))) (lv' := [(4, .int (nI (o + 1))), (5, .int (nI (ad (sg σ s9 2) (sg σ o 2)))), (0, .ref (a 0)), (1, .int (nI ot)), (2, .int (nI s9)), (3, .int (nI p))]) hx hb dX0_fitsOneOf_84 hl (k := 5) rfl (nI_add o 1) (by decide) rfl (fun ls hl => ?_)
      refine lv_goto (tgt := 3) hx hb dX0_fitsOneOf_87 (by decide) ?_
      exact ih3 (o + 1) ls ⟨lv_sub hl [2, 3, 4, 5, 0] rfl, (by omega), (by simp [ex, he, fo1, c_46])⟩ (by first | omega | (dsimp only; omega))
    · have c_46 := (bI_ne0.mp c_46)
      refine lv_aload_n hx hb dX0_fitsOneOf_49 rfl (lv_at hl 1 rfl) ?_
      refine va_get (D := g) (ci := 0) (v := .ref (a 1)) (C := RX0) (T := TX0) (N := 11) hx hb hts bgX0 hown hK hP 0 rfl rfl 0 (by decide) (hts _ wd2_8) (fun _ h9 => h9) rfl dX0_fitsOneOf_50 ?_
      refine lv_aload_n hx hb dX0_fitsOneOf_53 rfl (lv_at hl 1 rfl) ?_
      refine va_get (D := g) (ci := 0) (v := .ref (a 6)) (C := RX0) (T := TX0) (N := 11) hx hb hts bgX0 hown hK hP 0 rfl rfl 2 (by decide) (hts _ wd2_13) (fun _ h9 => h9) rfl dX0_fitsOneOf_54 ?_
      refine lv_iload_n hx hb dX0_fitsOneOf_57 rfl (lv_at hl 3 rfl) ?_
      refine lv_iconst (v := (nI 1)) hx hb dX0_fitsOneOf_58 (by decide) ?_
      refine rd_call (va_runV (As := [.int (nI s9), .int (nI 1)]) (rest := [.ref (a 1)]) ⟨hx, hb, hml, hown, hts⟩ (c_X3_get l g cy (a 6) (a 7) s.heap.size 20 6 120 (b 3) (σ 1) (nI s9) 1 (by omega) (by omega) (by omega) (by omega) (by omega) (by omega)) ⟨(cB 2 hts wd13_23 wd2_11 wd13_20 rfl rfl (by decide +kernel) ⟨Nat.le_of_ble_eq_true rfl, Nat.le_of_ble_eq_true rfl⟩), hts _ wd13_21, hts _ wd13_22⟩ (pv hK hP hD hS hA hX [6, 7] rfl rfl 3 6 rfl rfl) rfl rfl hl.1 rfl (lv_room (Nat.le_of_ble_eq_true rfl)) dX0_fitsOneOf_59 ⟨Nat.zero_le _, Nat.zero_le _⟩) ?_
      refine ti (show getR (b 3) 6 (σ 1) (nI s9) 1 = (nI (sg σ s9 1)) from (hbr.gs hn1 (by omega) (by decide))) ?_
      refine lv_aload_n hx hb dX0_fitsOneOf_62 rfl (lv_at hl 1 rfl) ?_
      refine va_get (D := g) (ci := 0) (v := .ref (a 6)) (C := RX0) (T := TX0) (N := 11) hx hb hts bgX0 hown hK hP 0 rfl rfl 2 (by decide) (hts _ wd2_13) (fun _ h9 => h9) rfl dX0_fitsOneOf_63 ?_
      refine lv_iload hx hb dX0_fitsOneOf_66 (lv_at hl 5 rfl) ?_
      refine lv_iconst (v := (nI 1)) hx hb dX0_fitsOneOf_68 (by decide) ?_
      refine rd_call (va_runV (As := [.int (nI o), .int (nI 1)]) (rest := [.int (nI (sg σ s9 1)), .ref (a 1)]) ⟨hx, hb, hml, hown, hts⟩ (c_X3_get l g cy (a 6) (a 7) s.heap.size 20 6 120 (b 3) (σ 1) (nI o) 1 (by omega) (by omega) (by omega) (by omega) (by omega) (by omega)) ⟨(cB 2 hts wd13_23 wd2_11 wd13_20 rfl rfl (by decide +kernel) ⟨Nat.le_of_ble_eq_true rfl, Nat.le_of_ble_eq_true rfl⟩), hts _ wd13_21, hts _ wd13_22⟩ (pv hK hP hD hS hA hX [6, 7] rfl rfl 3 6 rfl rfl) rfl rfl hl.1 rfl (lv_room (Nat.le_of_ble_eq_true rfl)) dX0_fitsOneOf_69 ⟨Nat.zero_le _, Nat.zero_le _⟩) ?_
      refine ti (show getR (b 3) 6 (σ 1) (nI o) 1 = (nI (sg σ o 1)) from (hbr.gs hn1 (by omega) (by decide))) ?_
      refine lv_iload_n hx hb dX0_fitsOneOf_72 rfl (lv_at hl 4 rfl) ?_
      refine lv_iload hx hb dX0_fitsOneOf_73 (lv_at hl 0 rfl) ?_
      refine lv_imul hx hb dX0_fitsOneOf_75 ?_
      refine ti (pk_mul p (ad (sg σ s9 2) (sg σ o 2))) ?_
      refine rd_call (va_runV (As := [.int (nI (sg σ s9 1)), .int (nI (sg σ o 1)), .int (nI (p * (ad (sg σ s9 2) (sg σ o 2))))]) (rest := []) ⟨hx, hb, hml, hown, hts⟩ (c_X2_isWithin l g cy (a 1) (a 2) (a 3) s.heap.size σ (wv σ) (b 1) (cmk σ) (sg σ s9 1) (sg σ o 1) (p * (ad (sg σ s9 2) (sg σ o 2))) (fun _ _ => rfl) (by omega) (by omega) (by omega)) ⟨(cB 3 hts wd15_18 wd2_7 wd15_15 rfl rfl (by decide +kernel) ⟨Nat.le_of_ble_eq_true rfl, Nat.le_of_ble_eq_true rfl⟩), hts _ wd15_16, hts _ wd15_17⟩ (pv hK hP hD hS hA hX [1, 2, 3] rfl rfl 2 1 rfl rfl) rfl rfl hl.1 rfl (lv_room (Nat.le_of_ble_eq_true rfl)) dX0_fitsOneOf_76 ⟨Nat.zero_le _, Nat.zero_le _⟩) ?_
      show W _ _ _ _ _ _ _ _ _ _ _ _ _ _ _ (F0 mX 79 ls [.int (bI (rch σ (sg σ s9 1) (sg σ o 1) (p * (ad (sg σ s9 2) (sg σ o 2)))))])
      refine lv_if_eq (tgt := 84) hx hb dX0_fitsOneOf_79 (by decide) (fun c_79 => ?_) (fun c_79 => ?_)
      · have c_79 := (bI_eq0.mp c_79)
        refine lv_iinc (v := (nI (o + 1))) (lv' := [(4, .int (nI (o + 1))), (5, .int (nI (ad (sg σ s9 2) (sg σ o 2)))), (0, .ref (a 0)), (1, .int (nI ot)), (2, .int (nI s9)), (3, .int (nI p))]) hx hb dX0_fitsOneOf_84 hl (k := 5) rfl (nI_add o 1) (by decide) rfl (fun ls hl => ?_)
        refine lv_goto (tgt := 3) hx hb dX0_fitsOneOf_87 (by decide) ?_
        exact ih3 (o + 1) ls ⟨lv_sub hl [2, 3, 4, 5, 0] rfl, (by omega), (by simp [ex, he, fo1, c_46, c_79])⟩ (by first | omega | (dsimp only; omega))
      · have c_79 := (bI_ne0.mp c_79)
        refine lv_iconst (v := (nI 1)) hx hb dX0_fitsOneOf_82 (by decide) ?_
        exact rd_z (by rw [show ex (fo1 σ ot s9 p) (σ 1) = true from ex_iff.mpr ⟨o, by omega, by simp [fo1, c_46, c_79]⟩]; rfl) hx hb hr dX0_fitsOneOf_83 hlk
set_option maxHeartbeats 4000000 in
set_option maxRecDepth 100000 in
theorem c_X0_fraudsFor (l : Launch) (g : va_G) (cy : Nat → ClassId) (sz : Nat) (a : Nat → Nat) (σ : Nat → Nat) (b : Nat → Nat → Int32) (bd : Nat) (d : Nat) (hwf : WF bd σ) (hbr : BR σ b) (hd : d < σ 0) : Met l yX0_fraudsFor (Cond.code yX0_fraudsFor cX0_fraudsFor 7 (some .int) :: wsL_law) ({ frames := 2, cells := 0, slots := 0, locals := 50 } : Room) (va_Pc [.ref (a 0), .int (nI d)] (pr g cy [(a 0, .inr (0, [.ref (a 1), .ref (a 4), .ref (a 6), .ref (a 8), .ref (a 9), .int (nI (σ 2)), .int (nI (σ 3)), .int (nI (σ 4)), .int (nI (σ 5)), .int (nI (σ 6)), .int (nI (σ 7))])), (a 1, .inr (2, [.ref (a 2), .ref (a 3), .int (nI (cmk σ))])), aI cy (a 2) 144 (wv σ), aI cy (a 3) 12 (b 1), (a 4, .inr (3, [.int (nI 6), .int (nI 11), .ref (a 5), .int (nI (σ 0))])), aI cy (a 5) 66 (b 2), (a 6, .inr (3, [.int (nI 20), .int (nI 6), .ref (a 7), .int (nI (σ 1))])), aI cy (a 7) 120 (b 3), aI cy (a 8) 8 (mS (pu σ)), aI cy (a 9) 6 (b 5)] sz)) (rd_Q (some (.int (nI (mk (frD σ d) (σ 1)))))) 0 0 (nF) := by
  refine mt_of (cc := cX0_fraudsFor) (maxL := 7) (ret := (some .int)) (by decide +kernel) (Nat.le_of_ble_eq_true rfl) ?_
  intro pX eX s mX below meth cX ls A hx hb hr hml hown hts hlk hin hsz hAe hA hP hD hK hX hl
  have hl : lv_has ls 7 [(0, .ref (a 0)), (1, .int (nI d))] := hl
  have hS : va_S A s.heap s.heap [] := va_S.rf
  have hn0 := hwf.n0
  have hn1 := hwf.n1
  have hh2 := hwf.h2
  have hdb := hwf.db hd
  have hdn := hwf.nn hd
  have hk20 : ∀ q, mk q (σ 1) < 2 ^ 20 := fun q => Nat.lt_of_lt_of_le (mk_lt q (σ 1)) (Nat.pow_le_pow_right (by decide) hn1)
  have hT := hk20 (trD σ d)
  refine lv_aload_n hx hb dX0_fraudsFor_0 rfl (lv_at hl 0 rfl) ?_
  refine lv_iload_n hx hb dX0_fraudsFor_1 rfl (lv_at hl 1 rfl) ?_
  refine rd_call (va_runV (As := [.int (nI d)]) (rest := []) ⟨hx, hb, hml, hown, hts⟩ (c_X0_isMissing l g cy  s.heap.size a σ b bd d hwf hbr (by omega)) ⟨(cB 1 hts wd13_19 wd1_12 wd13_16 rfl rfl (by decide +kernel) ⟨Nat.le_of_ble_eq_true rfl, Nat.le_of_ble_eq_true rfl⟩), hts _ wd13_17, hts _ wd13_18⟩ (pv hK hP hD hS hA hX [0, 1, 2, 3, 4, 5, 6, 7, 8, 9] rfl rfl 0 0 rfl rfl) rfl rfl hl.1 rfl (lv_room (Nat.le_of_ble_eq_true rfl)) dX0_fraudsFor_2 ⟨Nat.zero_le _, Nat.zero_le _⟩) ?_
  show W _ _ _ _ _ _ _ _ _ _ _ _ _ _ _ (F0 mX 5 ls [.int (bI (decide (d < σ 0) && msg σ d))])
  refine ti (show (bI (decide (d < σ 0) && msg σ d)) = (bI (msg σ d)) from (by simp [show d < σ 0 from (by omega)])) ?_
  refine lv_if_ne (tgt := 19) hx hb dX0_fraudsFor_5 (by decide) (fun c_5 => ?_) (fun c_5 => ?_)
  · have c_5 := (bI_ne0.mp c_5)
    have hm : msg σ d = true := c_5
    refine lv_aload_n hx hb dX0_fraudsFor_19 rfl (lv_at hl 0 rfl) ?_
    refine lv_iload_n hx hb dX0_fraudsFor_20 rfl (lv_at hl 1 rfl) ?_
    refine rd_call (va_runV (As := [.int (nI d)]) (rest := []) ⟨hx, hb, hml, hown, hts⟩ (c_X0_trueNowFor l g cy  s.heap.size a σ b bd d hwf hbr (by omega) (by omega)) ⟨(cB 1 hts wd15_14 wd1_12 wd15_11 rfl rfl (by decide +kernel) ⟨Nat.le_of_ble_eq_true rfl, Nat.le_of_ble_eq_true rfl⟩), hts _ wd15_12, hts _ wd15_13⟩ (pv hK hP hD hS hA hX [0, 1, 2, 3, 4, 5, 6, 7, 8, 9] rfl rfl 0 0 rfl rfl) rfl rfl hl.1 rfl (lv_room (Nat.le_of_ble_eq_true rfl)) dX0_fraudsFor_21 ⟨Nat.zero_le _, Nat.zero_le _⟩) ?_
    show W _ _ _ _ _ _ _ _ _ _ _ _ _ _ _ (F0 mX 24 ls [.int (nI (mk (trD σ d) (σ 1)))])
    refine lv_istore_n (lv' := [(2, .int (nI (mk (trD σ d) (σ 1)))), (0, .ref (a 0)), (1, .int (nI d))]) hx hb dX0_fraudsFor_24 rfl hl (by decide) rfl (fun ls hl => ?_)
    refine lv_aload_n hx hb dX0_fraudsFor_25 rfl (lv_at hl 1 rfl) ?_
    refine lv_iload_n hx hb dX0_fraudsFor_26 rfl (lv_at hl 2 rfl) ?_
    refine rd_call (va_runV (As := [.int (nI d)]) (rest := []) ⟨hx, hb, hml, hown, hts⟩ (c_X0_sightingsMeaning l g cy  s.heap.size a σ b bd d hwf hbr (by omega)) ⟨(cB 1 hts wd16_2 wd1_12 wd15_23 rfl rfl (by decide +kernel) ⟨Nat.le_of_ble_eq_true rfl, Nat.le_of_ble_eq_true rfl⟩), hts _ wd16_0, hts _ wd16_1⟩ (pv hK hP hD hS hA hX [0, 1, 2, 3, 4, 5, 6, 7, 8, 9] rfl rfl 0 0 rfl rfl) rfl rfl hl.1 rfl (lv_room (Nat.le_of_ble_eq_true rfl)) dX0_fraudsFor_27 ⟨Nat.zero_le _, Nat.zero_le _⟩) ?_
    show W _ _ _ _ _ _ _ _ _ _ _ _ _ _ _ (F0 mX 30 ls [.int (nI (mk (mng σ d) (σ 1)))])
    refine lv_iload_n hx hb dX0_fraudsFor_30 rfl (lv_at hl 0 rfl) ?_
    refine lv_iconst (v := (nI NN)) hx hb dX0_fraudsFor_31 (by decide) ?_
    refine lv_ixor hx hb dX0_fraudsFor_32 ?_
    refine ti (nx_xor (mk (trD σ d) (σ 1)) NN) ?_
    refine lv_iand hx hb dX0_fraudsFor_33 ?_
    refine ti (nx_and (mk (mng σ d) (σ 1)) ((mk (trD σ d) (σ 1)) ^^^ NN)) ?_
    refine ti (show (nI ((mk (mng σ d) (σ 1)) &&& ((mk (trD σ d) (σ 1)) ^^^ NN))) = (nI (mk (frI σ d 0) (σ 1))) from (by rw [nb_diffN (by omega), frI_0])) ?_
    refine lv_istore_n (lv' := [(3, .int (nI (mk (frI σ d 0) (σ 1)))), (2, .int (nI (mk (trD σ d) (σ 1)))), (0, .ref (a 0)), (1, .int (nI d))]) hx hb dX0_fraudsFor_34 rfl hl (by decide) rfl (fun ls hl => ?_)
    refine lv_iconst (v := (nI 0)) hx hb dX0_fraudsFor_35 (by decide) ?_
    refine lv_istore (lv' := [(4, .int (nI 0)), (3, .int (nI (mk (frI σ d 0) (σ 1)))), (2, .int (nI (mk (trD σ d) (σ 1)))), (0, .ref (a 0)), (1, .int (nI d))]) hx hb dX0_fraudsFor_36 hl (by decide) rfl (fun ls hl => ?_)
    refine lp_rd (σ := (Nat)) (fun x9 ls9 => lv_has ls9 7 [(0, .ref (a 0)), (1, .int (nI d)), (2, .int (nI (mk (trD σ d) (σ 1)))), (3, .int (nI (mk (frI σ d x9) (σ 1)))), (4, .int (nI x9))] ∧ (x9 ≤ σ 1)) (fun x9 => σ 1 - x9) (0) ⟨lv_sub hl [3, 4, 2, 1, 0] rfl, (by omega)⟩ ?_
    rintro s9 ls ⟨hl, hs9⟩ ih38
    try dsimp only at hl hs9 ih38
    refine lv_iload hx hb dX0_fraudsFor_38 (lv_at hl 4 rfl) ?_
    refine lv_aload_n hx hb dX0_fraudsFor_40 rfl (lv_at hl 0 rfl) ?_
    refine va_get (D := g) (ci := 0) (v := .ref (a 6)) (C := RX0) (T := TX0) (N := 11) hx hb hts bgX0 hown hK hP 0 rfl rfl 2 (by decide) (hts _ wd2_13) (fun _ h9 => h9) rfl dX0_fraudsFor_41 ?_
    refine rd_call (va_runV (As := []) (rest := [.int (nI s9)]) ⟨hx, hb, hml, hown, hts⟩ (c_X3_count l g cy (a 6) (a 7) s.heap.size 20 6 120 (b 3) (σ 1) ) ⟨(cB 0 hts wd13_15 wd2_11 wd13_12 rfl rfl (by decide +kernel) ⟨Nat.le_of_ble_eq_true rfl, Nat.le_of_ble_eq_true rfl⟩), hts _ wd13_13, hts _ wd13_14⟩ (pv hK hP hD hS hA hX [6, 7] rfl rfl 3 6 rfl rfl) rfl rfl hl.1 rfl (lv_room (Nat.le_of_ble_eq_true rfl)) dX0_fraudsFor_44 ⟨Nat.zero_le _, Nat.zero_le _⟩) ?_
    show W _ _ _ _ _ _ _ _ _ _ _ _ _ _ _ (F0 mX 47 ls [.int (nI (σ 1)), .int (nI s9)])
    refine lv_icmp_ge (tgt := 132) hx hb dX0_fraudsFor_47 (by decide) (fun c_47 => ?_) (fun c_47 => ?_)
    · have c_47 := (nc_le (by omega) (by omega) c_47)
      have e9 : s9 = σ 1 := by omega
      subst e9
      refine lv_iload_n hx hb dX0_fraudsFor_132 rfl (lv_at hl 3 rfl) ?_
      exact rd_i (congrArg nI frI_n) hx hb hr dX0_fraudsFor_133 hlk
    · have c_47 := (nc_nle (by omega) (by omega) c_47)
      have hsb := hwf.sb (show s9 < σ 1 by omega)
      refine lv_iload_n hx hb dX0_fraudsFor_50 rfl (lv_at hl 2 rfl) ?_
      refine lv_iconst (v := (nI 1)) hx hb dX0_fraudsFor_51 (by decide) ?_
      refine lv_iload hx hb dX0_fraudsFor_52 (lv_at hl 4 rfl) ?_
      refine lv_ishl hx hb dX0_fraudsFor_54 ?_
      refine ti (nb_shl (k := s9) (by omega)) ?_
      refine lv_iconst (v := (nI NN)) hx hb dX0_fraudsFor_55 (by decide) ?_
      refine lv_ixor hx hb dX0_fraudsFor_56 ?_
      refine ti (nx_xor (2 ^ s9) NN) ?_
      refine lv_iand hx hb dX0_fraudsFor_57 ?_
      refine ti (nx_and (mk (trD σ d) (σ 1)) ((2 ^ s9) ^^^ NN)) ?_
      refine ti (show (nI ((mk (trD σ d) (σ 1)) &&& ((2 ^ s9) ^^^ NN))) = (nI (mk (fun o => trD σ d o && !decide (o = s9)) (σ 1))) from (nb_butN (by omega) (by omega))) ?_
      refine lv_istore (lv' := [(5, .int (nI (mk (fun o => trD σ d o && !decide (o = s9)) (σ 1)))), (0, .ref (a 0)), (1, .int (nI d)), (2, .int (nI (mk (trD σ d) (σ 1)))), (3, .int (nI (mk (frI σ d s9) (σ 1)))), (4, .int (nI s9))]) hx hb dX0_fraudsFor_58 hl (by decide) rfl (fun ls hl => ?_)
      have hO := hk20 (fun o => trD σ d o && !decide (o = s9))
      have htb : (mk (trD σ d) (σ 1)).testBit s9 = trD σ d s9 := by rw [mk_bit]; simp [show s9 < σ 1 by omega]
      refine jn_i (pcj := 92) (ls := ls) (st := []) (fun v9 => v9 = (bI (trD σ d s9 && (decide (sg σ s9 4 = 0) && !decide (mk (fun o => trD σ d o && !decide (o = s9)) (σ 1) = 0))))) ?_ (fun jn92 => ?_)
      · intro v9 hv9
        subst hv9
        refine lv_istore (lv' := [(6, .int (bI (trD σ d s9 && (decide (sg σ s9 4 = 0) && !decide (mk (fun o => trD σ d o && !decide (o = s9)) (σ 1) = 0))))), (5, .int (nI (mk (fun o => trD σ d o && !decide (o = s9)) (σ 1)))), (0, .ref (a 0)), (1, .int (nI d)), (2, .int (nI (mk (trD σ d) (σ 1)))), (3, .int (nI (mk (frI σ d s9) (σ 1)))), (4, .int (nI s9))]) hx hb dX0_fraudsFor_92 hl (by decide) rfl (fun ls hl => ?_)
        have mf9 : (trD σ d s9 && (decide (sg σ s9 4 = 0) && !decide (mk (fun o => trD σ d o && !decide (o = s9)) (σ 1) = 0))) = true → mng σ d s9 = true ∧ tru σ s9 = true ∧ (sg σ s9 4 = 1) = False ∧ ex (oth σ s9) (σ 1) = true := by
          intro q
          simp only [trD, Bool.and_eq_true, decide_eq_true_eq, Bool.not_eq_true', decide_eq_false_iff_not] at q
          refine ⟨q.1.1, q.1.2, by simp only [eq_iff_iff, iff_false]; omega, ?_⟩
          apply Classical.byContradiction
          intro z
          apply of_decide_eq_false q.2.2
          have e1 := oth_mk (σ := σ) (d := d) (s := s9) q.1.1
          simp only [trD] at e1
          rw [e1]
          exact oth_ex.mpr (by simpa using z)
        have mn9 : (trD σ d s9 && (decide (sg σ s9 4 = 0) && !decide (mk (fun o => trD σ d o && !decide (o = s9)) (σ 1) = 0))) = false → mng σ d s9 = true → frd σ s9 = !tru σ s9 := by
          intro q z
          rw [frd_of hdn hm z]
          have e1 := oth_mk (σ := σ) (d := d) (s := s9) z
          rw [e1] at q
          by_cases ht : tru σ s9 = true
          · by_cases hp : sg σ s9 4 = 1
            · simp [ht, hp]
            · have hp0 : sg σ s9 4 = 0 := by omega
              simp only [trD, z, ht, hp0, Bool.and_self, Bool.true_and, decide_true, Bool.not_eq_false', decide_eq_true_eq] at q
              have e2 := oth_ex.mp q
              simp [ht, hp, e2]
          · simp [ht]
        refine lv_iload hx hb dX0_fraudsFor_94 (lv_at hl 0 rfl) ?_
        refine lv_if_eq (tgt := 126) hx hb dX0_fraudsFor_96 (by decide) (fun c_96 => ?_) (fun c_96 => ?_)
        · have c_96 := (bI_eq0.mp c_96)
          have hl : lv_has ls 7 [(6, .int (bI (trD σ d s9 && (decide (sg σ s9 4 = 0) && !decide (mk (fun o => trD σ d o && !decide (o = s9)) (σ 1) = 0))))), (5, .int (nI (mk (fun o => trD σ d o && !decide (o = s9)) (σ 1)))), (0, .ref (a 0)), (1, .int (nI d)), (2, .int (nI (mk (trD σ d) (σ 1)))), (3, .int (nI (mk (frI σ d (s9 + 1)) (σ 1)))), (4, .int (nI s9))] := by rw [← show (nI (mk (frI σ d s9) (σ 1))) = (nI (mk (frI σ d (s9 + 1)) (σ 1))) from (congrArg nI (frI_keep (fun q => mn9 c_96 q)))]; exact hl
          refine lv_iinc (v := (nI (s9 + 1))) (lv' := [(4, .int (nI (s9 + 1))), (6, .int (bI (trD σ d s9 && (decide (sg σ s9 4 = 0) && !decide (mk (fun o => trD σ d o && !decide (o = s9)) (σ 1) = 0))))), (5, .int (nI (mk (fun o => trD σ d o && !decide (o = s9)) (σ 1)))), (0, .ref (a 0)), (1, .int (nI d)), (2, .int (nI (mk (trD σ d) (σ 1)))), (3, .int (nI (mk (frI σ d (s9 + 1)) (σ 1))))]) hx hb dX0_fraudsFor_126 hl (k := 6) rfl (nI_add s9 1) (by decide) rfl (fun ls hl => ?_)
          refine lv_goto (tgt := 38) hx hb dX0_fraudsFor_129 (by decide) ?_
          exact ih38 (s9 + 1) ls ⟨lv_sub hl [3, 4, 5, 6, 0] rfl, (by omega)⟩ (by first | omega | (dsimp only; omega))
        · have c_96 := (bI_ne0.mp c_96)
          refine lv_aload_n hx hb dX0_fraudsFor_99 rfl (lv_at hl 2 rfl) ?_
          refine lv_iload hx hb dX0_fraudsFor_100 (lv_at hl 1 rfl) ?_
          refine lv_iload hx hb dX0_fraudsFor_102 (lv_at hl 6 rfl) ?_
          refine lv_aload_n hx hb dX0_fraudsFor_104 rfl (lv_at hl 2 rfl) ?_
          refine va_get (D := g) (ci := 0) (v := .ref (a 4)) (C := RX0) (T := TX0) (N := 11) hx hb hts bgX0 hown hK hP 0 rfl rfl 1 (by decide) (hts _ wd2_12) (fun _ h9 => h9) rfl dX0_fraudsFor_105 ?_
          refine lv_iload_n hx hb dX0_fraudsFor_108 rfl (lv_at hl 3 rfl) ?_
          refine lv_iconst (v := (nI 1)) hx hb dX0_fraudsFor_109 (by decide) ?_
          refine rd_call (va_runV (As := [.int (nI d), .int (nI 1)]) (rest := [.int (nI s9), .int (nI (mk (fun o => trD σ d o && !decide (o = s9)) (σ 1))), .ref (a 0)]) ⟨hx, hb, hml, hown, hts⟩ (c_X3_get l g cy (a 4) (a 5) s.heap.size 6 11 66 (b 2) (σ 0) (nI d) 1 (by omega) (by omega) (by omega) (by omega) (by omega) (by omega)) ⟨(cB 2 hts wd13_23 wd2_11 wd13_20 rfl rfl (by decide +kernel) ⟨Nat.le_of_ble_eq_true rfl, Nat.le_of_ble_eq_true rfl⟩), hts _ wd13_21, hts _ wd13_22⟩ (pv hK hP hD hS hA hX [4, 5] rfl rfl 3 4 rfl rfl) rfl rfl hl.1 rfl (lv_room (Nat.le_of_ble_eq_true rfl)) dX0_fraudsFor_110 ⟨Nat.zero_le _, Nat.zero_le _⟩) ?_
          refine ti (show getR (b 2) 11 (σ 0) (nI d) 1 = (nI (dg σ d 1)) from (hbr.gd hn0 (by omega) (by decide))) ?_
          have hfx : ex (fun o => oth σ s9 o && fit σ s9 o) (σ 1) = ex (fo1 σ (mk (fun o => trD σ d o && !decide (o = s9)) (σ 1)) s9 (dg σ d 1)) (σ 1) := by rw [oth_mk (mf9 c_96).1, fo_ex (mf9 c_96).1]
          refine rd_call (va_runV (As := [.int (nI (mk (fun o => trD σ d o && !decide (o = s9)) (σ 1))), .int (nI s9), .int (nI (dg σ d 1))]) (rest := []) ⟨hx, hb, hml, hown, hts⟩ (c_X0_fitsOneOf l g cy  s.heap.size a σ b bd (mk (fun o => trD σ d o && !decide (o = s9)) (σ 1)) s9 (dg σ d 1) hwf hbr (by omega) (by omega) (by omega)) ⟨(cB 3 hts wd16_6 wd1_12 wd16_3 rfl rfl (by decide +kernel) ⟨Nat.le_of_ble_eq_true rfl, Nat.le_of_ble_eq_true rfl⟩), hts _ wd16_4, hts _ wd16_5⟩ (pv hK hP hD hS hA hX [0, 1, 2, 3, 4, 5, 6, 7, 8, 9] rfl rfl 0 0 rfl rfl) rfl rfl hl.1 rfl (lv_room (Nat.le_of_ble_eq_true rfl)) dX0_fraudsFor_113 ⟨Nat.zero_le _, Nat.zero_le _⟩) ?_
          show W _ _ _ _ _ _ _ _ _ _ _ _ _ _ _ (F0 mX 116 ls [.int (bI (ex (fo1 σ (mk (fun o => trD σ d o && !decide (o = s9)) (σ 1)) s9 (dg σ d 1)) (σ 1)))])
          refine lv_if_ne (tgt := 126) hx hb dX0_fraudsFor_116 (by decide) (fun c_116 => ?_) (fun c_116 => ?_)
          · have c_116 := (bI_ne0.mp c_116)
            have hl : lv_has ls 7 [(6, .int (bI (trD σ d s9 && (decide (sg σ s9 4 = 0) && !decide (mk (fun o => trD σ d o && !decide (o = s9)) (σ 1) = 0))))), (5, .int (nI (mk (fun o => trD σ d o && !decide (o = s9)) (σ 1)))), (0, .ref (a 0)), (1, .int (nI d)), (2, .int (nI (mk (trD σ d) (σ 1)))), (3, .int (nI (mk (frI σ d (s9 + 1)) (σ 1)))), (4, .int (nI s9))] := by rw [← show (nI (mk (frI σ d s9) (σ 1))) = (nI (mk (frI σ d (s9 + 1)) (σ 1))) from (congrArg nI (frI_keep (fun q => by rw [frd_of hdn hm q]; simp [(mf9 c_96).2.1, (mf9 c_96).2.2.1, hfx, c_116])))]; exact hl
            refine lv_iinc (v := (nI (s9 + 1))) (lv' := [(4, .int (nI (s9 + 1))), (6, .int (bI (trD σ d s9 && (decide (sg σ s9 4 = 0) && !decide (mk (fun o => trD σ d o && !decide (o = s9)) (σ 1) = 0))))), (5, .int (nI (mk (fun o => trD σ d o && !decide (o = s9)) (σ 1)))), (0, .ref (a 0)), (1, .int (nI d)), (2, .int (nI (mk (trD σ d) (σ 1)))), (3, .int (nI (mk (frI σ d (s9 + 1)) (σ 1))))]) hx hb dX0_fraudsFor_126 hl (k := 6) rfl (nI_add s9 1) (by decide) rfl (fun ls hl => ?_)
            refine lv_goto (tgt := 38) hx hb dX0_fraudsFor_129 (by decide) ?_
            exact ih38 (s9 + 1) ls ⟨lv_sub hl [3, 4, 5, 6, 0] rfl, (by omega)⟩ (by first | omega | (dsimp only; omega))
          · have c_116 := (bI_eq0.mp c_116)
            refine lv_iload_n hx hb dX0_fraudsFor_119 rfl (lv_at hl 5 rfl) ?_
            refine lv_iconst (v := (nI 1)) hx hb dX0_fraudsFor_120 (by decide) ?_
            refine lv_iload hx hb dX0_fraudsFor_121 (lv_at hl 6 rfl) ?_
            refine lv_ishl hx hb dX0_fraudsFor_123 ?_
            refine ti (nb_shl (k := s9) (by omega)) ?_
            refine lv_ior hx hb dX0_fraudsFor_124 ?_
            refine ti (nx_or (mk (frI σ d s9) (σ 1)) (2 ^ s9)) ?_
            refine lv_istore_n (lv' := [(3, .int (nI ((mk (frI σ d s9) (σ 1)) ||| (2 ^ s9)))), (6, .int (bI (trD σ d s9 && (decide (sg σ s9 4 = 0) && !decide (mk (fun o => trD σ d o && !decide (o = s9)) (σ 1) = 0))))), (5, .int (nI (mk (fun o => trD σ d o && !decide (o = s9)) (σ 1)))), (0, .ref (a 0)), (1, .int (nI d)), (2, .int (nI (mk (trD σ d) (σ 1)))), (4, .int (nI s9))]) hx hb dX0_fraudsFor_125 rfl hl (by decide) rfl (fun ls hl => ?_)
            have hl : lv_has ls 7 [(3, .int (nI (mk (frI σ d (s9 + 1)) (σ 1)))), (6, .int (bI (trD σ d s9 && (decide (sg σ s9 4 = 0) && !decide (mk (fun o => trD σ d o && !decide (o = s9)) (σ 1) = 0))))), (5, .int (nI (mk (fun o => trD σ d o && !decide (o = s9)) (σ 1)))), (0, .ref (a 0)), (1, .int (nI d)), (2, .int (nI (mk (trD σ d) (σ 1)))), (4, .int (nI s9))] := by rw [← show (nI ((mk (frI σ d s9) (σ 1)) ||| (2 ^ s9))) = (nI (mk (frI σ d (s9 + 1)) (σ 1))) from (congrArg nI (frI_set (by omega) (mf9 c_96).1 (by rw [frd_of hdn hm (mf9 c_96).1]; simp [(mf9 c_96).2.1, (mf9 c_96).2.2.1, (mf9 c_96).2.2.2, hfx, c_116])))]; exact hl
            refine lv_iinc (v := (nI (s9 + 1))) (lv' := [(4, .int (nI (s9 + 1))), (3, .int (nI (mk (frI σ d (s9 + 1)) (σ 1)))), (6, .int (bI (trD σ d s9 && (decide (sg σ s9 4 = 0) && !decide (mk (fun o => trD σ d o && !decide (o = s9)) (σ 1) = 0))))), (5, .int (nI (mk (fun o => trD σ d o && !decide (o = s9)) (σ 1)))), (0, .ref (a 0)), (1, .int (nI d)), (2, .int (nI (mk (trD σ d) (σ 1))))]) hx hb dX0_fraudsFor_126 hl (k := 6) rfl (nI_add s9 1) (by decide) rfl (fun ls hl => ?_)
            refine lv_goto (tgt := 38) hx hb dX0_fraudsFor_129 (by decide) ?_
            exact ih38 (s9 + 1) ls ⟨lv_sub hl [4, 5, 6, 1, 0] rfl, (by omega)⟩ (by first | omega | (dsimp only; omega))
      · skip
        have hO := hk20 (fun o => trD σ d o && !decide (o = s9))
        have htb : (mk (trD σ d) (σ 1)).testBit s9 = trD σ d s9 := by rw [mk_bit]; simp [show s9 < σ 1 by omega]
        refine lv_iload_n hx hb dX0_fraudsFor_60 rfl (lv_at hl 3 rfl) ?_
        refine lv_iload hx hb dX0_fraudsFor_61 (lv_at hl 5 rfl) ?_
        refine rd_call (va_runSN (As := [.int (nI (mk (trD σ d) (σ 1))), .int (nI s9)]) (rest := []) ⟨hx, hb, hml, hown, hts⟩ (c_X7_hasBit l (mk (trD σ d) (σ 1)) s9 (by omega) (by omega)) ⟨va_cnB 2 hts (bg_call wd5_0) rfl rfl rfl (nM_8 hX) (hts _ wd1_2) (by decide +kernel) ⟨Nat.le_of_ble_eq_true rfl, Nat.le_of_ble_eq_true rfl⟩, hts _ wd4_23, trivial⟩ p0 rfl rfl hl.1 rfl (lv_room (Nat.le_of_ble_eq_true rfl)) dX0_fraudsFor_63 ⟨Nat.zero_le _, Nat.zero_le _⟩) ?_
        show W _ _ _ _ _ _ _ _ _ _ _ _ _ _ _ (F0 mX 66 ls [.int (bI ((mk (trD σ d) (σ 1)).testBit s9))])
        refine ti (show (bI ((mk (trD σ d) (σ 1)).testBit s9)) = (bI (trD σ d s9)) from (congrArg bI htb)) ?_
        refine lv_if_eq (tgt := 91) hx hb dX0_fraudsFor_66 (by decide) (fun c_66 => ?_) (fun c_66 => ?_)
        · have c_66 := (bI_eq0.mp c_66)
          refine lv_iconst (v := (nI 0)) hx hb dX0_fraudsFor_91 (by decide) ?_
          exact jn92 _ (by simp [bI, nI_0, nI_o, c_66])
        · have c_66 := (bI_ne0.mp c_66)
          refine lv_aload_n hx hb dX0_fraudsFor_69 rfl (lv_at hl 1 rfl) ?_
          refine va_get (D := g) (ci := 0) (v := .ref (a 6)) (C := RX0) (T := TX0) (N := 11) hx hb hts bgX0 hown hK hP 0 rfl rfl 2 (by decide) (hts _ wd2_13) (fun _ h9 => h9) rfl dX0_fraudsFor_70 ?_
          refine lv_iload hx hb dX0_fraudsFor_73 (lv_at hl 5 rfl) ?_
          refine lv_iconst (v := (nI 4)) hx hb dX0_fraudsFor_75 (by decide) ?_
          refine rd_call (va_runV (As := [.int (nI s9), .int (nI 4)]) (rest := []) ⟨hx, hb, hml, hown, hts⟩ (c_X3_get l g cy (a 6) (a 7) s.heap.size 20 6 120 (b 3) (σ 1) (nI s9) 4 (by omega) (by omega) (by omega) (by omega) (by omega) (by omega)) ⟨(cB 2 hts wd13_23 wd2_11 wd13_20 rfl rfl (by decide +kernel) ⟨Nat.le_of_ble_eq_true rfl, Nat.le_of_ble_eq_true rfl⟩), hts _ wd13_21, hts _ wd13_22⟩ (pv hK hP hD hS hA hX [6, 7] rfl rfl 3 6 rfl rfl) rfl rfl hl.1 rfl (lv_room (Nat.le_of_ble_eq_true rfl)) dX0_fraudsFor_76 ⟨Nat.zero_le _, Nat.zero_le _⟩) ?_
          refine ti (show getR (b 3) 6 (σ 1) (nI s9) 4 = (nI (sg σ s9 4)) from (hbr.gs hn1 (by omega) (by decide))) ?_
          refine lv_if_ne (tgt := 91) hx hb dX0_fraudsFor_79 (by decide) (fun c_79 => ?_) (fun c_79 => ?_)
          · have c_79 := (nz_ne c_79 (by omega))
            refine lv_iconst (v := (nI 0)) hx hb dX0_fraudsFor_91 (by decide) ?_
            exact jn92 _ (by simp [bI, nI_0, nI_o, c_66, c_79])
          · have c_79 := (nz_eq c_79 (by omega))
            refine lv_iload hx hb dX0_fraudsFor_82 (lv_at hl 0 rfl) ?_
            refine lv_if_eq (tgt := 91) hx hb dX0_fraudsFor_84 (by decide) (fun c_84 => ?_) (fun c_84 => ?_)
            · have c_84 := (nz_eq c_84 (by omega))
              refine lv_iconst (v := (nI 0)) hx hb dX0_fraudsFor_91 (by decide) ?_
              exact jn92 _ (by simp [bI, nI_0, nI_o, c_66, c_79, c_84])
            · have c_84 := (nz_ne c_84 (by omega))
              refine lv_iconst (v := (nI 1)) hx hb dX0_fraudsFor_87 (by decide) ?_
              refine lv_goto (tgt := 92) hx hb dX0_fraudsFor_88 (by decide) ?_
              exact jn92 _ (by simp [bI, nI_0, nI_o, c_66, c_79, c_84])
  · have c_5 := (bI_eq0.mp c_5)
    refine lv_aload_n hx hb dX0_fraudsFor_8 rfl (lv_at hl 0 rfl) ?_
    refine va_get (D := g) (ci := 0) (v := .ref (a 4)) (C := RX0) (T := TX0) (N := 11) hx hb hts bgX0 hown hK hP 0 rfl rfl 1 (by decide) (hts _ wd2_12) (fun _ h9 => h9) rfl dX0_fraudsFor_9 ?_
    refine lv_iload_n hx hb dX0_fraudsFor_12 rfl (lv_at hl 1 rfl) ?_
    refine lv_bipush (v := (nI 10)) hx hb dX0_fraudsFor_13 (by decide) ?_
    refine rd_call (va_runV (As := [.int (nI d), .int (nI 10)]) (rest := []) ⟨hx, hb, hml, hown, hts⟩ (c_X3_get l g cy (a 4) (a 5) s.heap.size 6 11 66 (b 2) (σ 0) (nI d) 10 (by omega) (by omega) (by omega) (by omega) (by omega) (by omega)) ⟨(cB 2 hts wd13_23 wd2_11 wd13_20 rfl rfl (by decide +kernel) ⟨Nat.le_of_ble_eq_true rfl, Nat.le_of_ble_eq_true rfl⟩), hts _ wd13_21, hts _ wd13_22⟩ (pv hK hP hD hS hA hX [4, 5] rfl rfl 3 4 rfl rfl) rfl rfl hl.1 rfl (lv_room (Nat.le_of_ble_eq_true rfl)) dX0_fraudsFor_15 ⟨Nat.zero_le _, Nat.zero_le _⟩) ?_
    refine ti (show getR (b 2) 11 (σ 0) (nI d) 10 = (nI (mk (stF σ d) (σ 1))) from (hbr.g10 hn0 (by omega) c_5)) ?_
    refine ti (show (nI (mk (stF σ d) (σ 1))) = (nI (mk (frD σ d) (σ 1))) from (congrArg nI (st_fr hdn c_5))) ?_
    exact rd_i rfl hx hb hr dX0_fraudsFor_18 hlk
set_option maxHeartbeats 4000000 in
set_option maxRecDepth 100000 in
theorem c_X0_fraudsInAll (l : Launch) (g : va_G) (cy : Nat → ClassId) (sz : Nat) (a : Nat → Nat) (σ : Nat → Nat) (b : Nat → Nat → Int32) (bd : Nat) (hwf : WF bd σ) (hbr : BR σ b) : Met l yX0_fraudsInAll (Cond.code yX0_fraudsInAll cX0_fraudsInAll 3 (some .int) :: wsL_law) ({ frames := 3, cells := 0, slots := 0, locals := 76 } : Room) (va_Pc [.ref (a 0)] (pr g cy [(a 0, .inr (0, [.ref (a 1), .ref (a 4), .ref (a 6), .ref (a 8), .ref (a 9), .int (nI (σ 2)), .int (nI (σ 3)), .int (nI (σ 4)), .int (nI (σ 5)), .int (nI (σ 6)), .int (nI (σ 7))])), (a 1, .inr (2, [.ref (a 2), .ref (a 3), .int (nI (cmk σ))])), aI cy (a 2) 144 (wv σ), aI cy (a 3) 12 (b 1), (a 4, .inr (3, [.int (nI 6), .int (nI 11), .ref (a 5), .int (nI (σ 0))])), aI cy (a 5) 66 (b 2), (a 6, .inr (3, [.int (nI 20), .int (nI 6), .ref (a 7), .int (nI (σ 1))])), aI cy (a 7) 120 (b 3), aI cy (a 8) 8 (mS (pu σ)), aI cy (a 9) 6 (b 5)] sz)) (rd_Q (some (.int (nI (ct (frd σ) (σ 1)))))) 0 0 (nF) := by
  refine mt_of (cc := cX0_fraudsInAll) (maxL := 3) (ret := (some .int)) (by decide +kernel) (Nat.le_of_ble_eq_true rfl) ?_
  intro pX eX s mX below meth cX ls A hx hb hr hml hown hts hlk hin hsz hAe hA hP hD hK hX hl
  have hl : lv_has ls 3 [(0, .ref (a 0))] := hl
  have hS : va_S A s.heap s.heap [] := va_S.rf
  have hn0 := hwf.n0
  have hn1 := hwf.n1
  have hh2 := hwf.h2
  have hk20 : ∀ q, mk q (σ 1) < 2 ^ 20 := fun q => Nat.lt_of_lt_of_le (mk_lt q (σ 1)) (Nat.pow_le_pow_right (by decide) hn1)
  refine lv_iconst (v := (nI 0)) hx hb dX0_fraudsInAll_0 (by decide) ?_
  refine lv_istore_n (lv' := [(1, .int (nI 0)), (0, .ref (a 0))]) hx hb dX0_fraudsInAll_1 rfl hl (by decide) rfl (fun ls hl => ?_)
  refine lv_iconst (v := (nI 0)) hx hb dX0_fraudsInAll_2 (by decide) ?_
  refine lv_istore_n (lv' := [(2, .int (nI 0)), (1, .int (nI 0)), (0, .ref (a 0))]) hx hb dX0_fraudsInAll_3 rfl hl (by decide) rfl (fun ls hl => ?_)
  have hl : lv_has ls 3 [(2, .int (nI 0)), (1, .int (nI (sm (fun d => ct (frD σ d) (σ 1)) 0))), (0, .ref (a 0))] := by rw [← show (nI 0) = (nI (sm (fun d => ct (frD σ d) (σ 1)) 0)) from rfl]; exact hl
  refine lp_rd (σ := (Nat)) (fun x9 ls9 => lv_has ls9 3 [(0, .ref (a 0)), (1, .int (nI (sm (fun d => ct (frD σ d) (σ 1)) x9))), (2, .int (nI x9))] ∧ (x9 ≤ σ 0)) (fun x9 => σ 0 - x9) (0) ⟨lv_sub hl [2, 1, 0] rfl, (by omega)⟩ ?_
  rintro i ls ⟨hl, hi⟩ ih4
  try dsimp only at hl hi ih4
  refine lv_iload_n hx hb dX0_fraudsInAll_4 rfl (lv_at hl 2 rfl) ?_
  refine lv_aload_n hx hb dX0_fraudsInAll_5 rfl (lv_at hl 0 rfl) ?_
  refine va_get (D := g) (ci := 0) (v := .ref (a 4)) (C := RX0) (T := TX0) (N := 11) hx hb hts bgX0 hown hK hP 0 rfl rfl 1 (by decide) (hts _ wd2_12) (fun _ h9 => h9) rfl dX0_fraudsInAll_6 ?_
  refine rd_call (va_runV (As := []) (rest := [.int (nI i)]) ⟨hx, hb, hml, hown, hts⟩ (c_X3_count l g cy (a 4) (a 5) s.heap.size 6 11 66 (b 2) (σ 0) ) ⟨(cB 0 hts wd13_15 wd2_11 wd13_12 rfl rfl (by decide +kernel) ⟨Nat.le_of_ble_eq_true rfl, Nat.le_of_ble_eq_true rfl⟩), hts _ wd13_13, hts _ wd13_14⟩ (pv hK hP hD hS hA hX [4, 5] rfl rfl 3 4 rfl rfl) rfl rfl hl.1 rfl (lv_room (Nat.le_of_ble_eq_true rfl)) dX0_fraudsInAll_9 ⟨Nat.zero_le _, Nat.zero_le _⟩) ?_
  show W _ _ _ _ _ _ _ _ _ _ _ _ _ _ _ (F0 mX 12 ls [.int (nI (σ 0)), .int (nI i)])
  refine lv_icmp_ge (tgt := 32) hx hb dX0_fraudsInAll_12 (by decide) (fun c_12 => ?_) (fun c_12 => ?_)
  · have c_12 := (nc_le (by omega) (by omega) c_12)
    have e9 : i = σ 0 := by omega
    subst e9
    refine lv_iload_n hx hb dX0_fraudsInAll_32 rfl (lv_at hl 1 rfl) ?_
    exact rd_i (congrArg nI (fr_all hwf)) hx hb hr dX0_fraudsInAll_33 hlk
  · have c_12 := (nc_nle (by omega) (by omega) c_12)
    refine lv_iload_n hx hb dX0_fraudsInAll_15 rfl (lv_at hl 1 rfl) ?_
    refine lv_aload_n hx hb dX0_fraudsInAll_16 rfl (lv_at hl 0 rfl) ?_
    refine lv_iload_n hx hb dX0_fraudsInAll_17 rfl (lv_at hl 2 rfl) ?_
    have hF := hk20 (frD σ i)
    refine rd_call (va_runV (As := [.int (nI i)]) (rest := [.int (nI (sm (fun d => ct (frD σ d) (σ 1)) i))]) ⟨hx, hb, hml, hown, hts⟩ (c_X0_fraudsFor l g cy  s.heap.size a σ b bd i hwf hbr (by omega)) ⟨(cB 1 hts wd15_22 wd1_12 wd15_19 rfl rfl (by decide +kernel) ⟨Nat.le_of_ble_eq_true rfl, Nat.le_of_ble_eq_true rfl⟩), hts _ wd15_20, hts _ wd15_21⟩ (pv hK hP hD hS hA hX [0, 1, 2, 3, 4, 5, 6, 7, 8, 9] rfl rfl 0 0 rfl rfl) rfl rfl hl.1 rfl (lv_room (Nat.le_of_ble_eq_true rfl)) dX0_fraudsInAll_18 ⟨Nat.zero_le _, Nat.zero_le _⟩) ?_
    show W _ _ _ _ _ _ _ _ _ _ _ _ _ _ _ (F0 mX 21 ls [.int (nI (mk (frD σ i) (σ 1))), .int (nI (sm (fun d => ct (frD σ d) (σ 1)) i))])
    refine rd_call (va_runS (As := [.int (nI (mk (frD σ i) (σ 1)))]) (rest := [.int (nI (sm (fun d => ct (frD σ d) (σ 1)) i))]) ⟨hx, hb, hml, hown, hts⟩ (c_J6_bitCount_0f7a4 l (mk (frD σ i) (σ 1)) (by omega)) ⟨(cB 1 hts wd14_7 wd14_6 wd14_4 rfl rfl (by decide +kernel) ⟨Nat.le_of_ble_eq_true rfl, Nat.le_of_ble_eq_true rfl⟩), hts _ wd14_5⟩ p0 rfl rfl hl.1 rfl (lv_room (Nat.le_of_ble_eq_true rfl)) dX0_fraudsInAll_21 ⟨Nat.zero_le _, Nat.zero_le _⟩) ?_
    show W _ _ _ _ _ _ _ _ _ _ _ _ _ _ _ (F0 mX 24 ls [.int (nI (ct (mk (frD σ i) (σ 1)).testBit 24)), .int (nI (sm (fun d => ct (frD σ d) (σ 1)) i))])
    refine ti (show (nI (ct (mk (frD σ i) (σ 1)).testBit 24)) = (nI (ct (frD σ i) (σ 1))) from (congrArg nI (ct_mk (by omega)))) ?_
    refine lv_iadd hx hb dX0_fraudsInAll_24 ?_
    refine ti (nI_add (sm (fun d => ct (frD σ d) (σ 1)) i) (ct (frD σ i) (σ 1))) ?_
    refine lv_istore_n (lv' := [(1, .int (nI ((sm (fun d => ct (frD σ d) (σ 1)) i) + (ct (frD σ i) (σ 1))))), (0, .ref (a 0)), (2, .int (nI i))]) hx hb dX0_fraudsInAll_25 rfl hl (by decide) rfl (fun ls hl => ?_)
    have hl : lv_has ls 3 [(1, .int (nI (sm (fun d => ct (frD σ d) (σ 1)) (i + 1)))), (0, .ref (a 0)), (2, .int (nI i))] := by rw [← show (nI ((sm (fun d => ct (frD σ d) (σ 1)) i) + (ct (frD σ i) (σ 1)))) = (nI (sm (fun d => ct (frD σ d) (σ 1)) (i + 1))) from rfl]; exact hl
    refine lv_iinc (v := (nI (i + 1))) (lv' := [(2, .int (nI (i + 1))), (1, .int (nI (sm (fun d => ct (frD σ d) (σ 1)) (i + 1)))), (0, .ref (a 0))]) hx hb dX0_fraudsInAll_26 hl (k := 2) rfl (nI_add i 1) (by decide) rfl (fun ls hl => ?_)
    refine lv_goto (tgt := 4) hx hb dX0_fraudsInAll_29 (by decide) ?_
    exact ih4 (i + 1) ls ⟨lv_sub hl [2, 1, 0] rfl, (by omega)⟩ (by first | omega | (dsimp only; omega))
set_option maxHeartbeats 4000000 in
set_option maxRecDepth 100000 in
theorem c_X0_honestFor (l : Launch) (g : va_G) (cy : Nat → ClassId) (sz : Nat) (a : Nat → Nat) (σ : Nat → Nat) (b : Nat → Nat → Int32) (bd : Nat) (d : Nat) (hwf : WF bd σ) (hbr : BR σ b) (hd : d < σ 0) : Met l yX0_honestFor (Cond.code yX0_honestFor cX0_honestFor 2 (some .int) :: wsL_law) ({ frames := 3, cells := 0, slots := 0, locals := 76 } : Room) (va_Pc [.ref (a 0), .int (nI d)] (pr g cy [(a 0, .inr (0, [.ref (a 1), .ref (a 4), .ref (a 6), .ref (a 8), .ref (a 9), .int (nI (σ 2)), .int (nI (σ 3)), .int (nI (σ 4)), .int (nI (σ 5)), .int (nI (σ 6)), .int (nI (σ 7))])), (a 1, .inr (2, [.ref (a 2), .ref (a 3), .int (nI (cmk σ))])), aI cy (a 2) 144 (wv σ), aI cy (a 3) 12 (b 1), (a 4, .inr (3, [.int (nI 6), .int (nI 11), .ref (a 5), .int (nI (σ 0))])), aI cy (a 5) 66 (b 2), (a 6, .inr (3, [.int (nI 20), .int (nI 6), .ref (a 7), .int (nI (σ 1))])), aI cy (a 7) 120 (b 3), aI cy (a 8) 8 (mS (pu σ)), aI cy (a 9) 6 (b 5)] sz)) (rd_Q (some (.int (nI (mk (hon σ d) (σ 1)))))) 0 0 (nF) := by
  refine mt_of (cc := cX0_honestFor) (maxL := 2) (ret := (some .int)) (by decide +kernel) (Nat.le_of_ble_eq_true rfl) ?_
  intro pX eX s mX below meth cX ls A hx hb hr hml hown hts hlk hin hsz hAe hA hP hD hK hX hl
  have hl : lv_has ls 2 [(0, .ref (a 0)), (1, .int (nI d))] := hl
  have hS : va_S A s.heap s.heap [] := va_S.rf
  have hn0 := hwf.n0
  have hn1 := hwf.n1
  have hh2 := hwf.h2
  refine lv_aload_n hx hb dX0_honestFor_0 rfl (lv_at hl 0 rfl) ?_
  refine lv_iload_n hx hb dX0_honestFor_1 rfl (lv_at hl 1 rfl) ?_
  refine rd_call (va_runV (As := [.int (nI d)]) (rest := []) ⟨hx, hb, hml, hown, hts⟩ (c_X0_sightingsMeaning l g cy  s.heap.size a σ b bd d hwf hbr (by omega)) ⟨(cB 1 hts wd16_2 wd1_12 wd15_23 rfl rfl (by decide +kernel) ⟨Nat.le_of_ble_eq_true rfl, Nat.le_of_ble_eq_true rfl⟩), hts _ wd16_0, hts _ wd16_1⟩ (pv hK hP hD hS hA hX [0, 1, 2, 3, 4, 5, 6, 7, 8, 9] rfl rfl 0 0 rfl rfl) rfl rfl hl.1 rfl (lv_room (Nat.le_of_ble_eq_true rfl)) dX0_honestFor_2 ⟨Nat.zero_le _, Nat.zero_le _⟩) ?_
  show W _ _ _ _ _ _ _ _ _ _ _ _ _ _ _ (F0 mX 5 ls [.int (nI (mk (mng σ d) (σ 1)))])
  refine lv_aload_n hx hb dX0_honestFor_5 rfl (lv_at hl 0 rfl) ?_
  refine lv_iload_n hx hb dX0_honestFor_6 rfl (lv_at hl 1 rfl) ?_
  refine rd_call (va_runV (As := [.int (nI d)]) (rest := [.int (nI (mk (mng σ d) (σ 1)))]) ⟨hx, hb, hml, hown, hts⟩ (c_X0_fraudsFor l g cy  s.heap.size a σ b bd d hwf hbr (by omega)) ⟨(cB 1 hts wd15_22 wd1_12 wd15_19 rfl rfl (by decide +kernel) ⟨Nat.le_of_ble_eq_true rfl, Nat.le_of_ble_eq_true rfl⟩), hts _ wd15_20, hts _ wd15_21⟩ (pv hK hP hD hS hA hX [0, 1, 2, 3, 4, 5, 6, 7, 8, 9] rfl rfl 0 0 rfl rfl) rfl rfl hl.1 rfl (lv_room (Nat.le_of_ble_eq_true rfl)) dX0_honestFor_7 ⟨Nat.zero_le _, Nat.zero_le _⟩) ?_
  show W _ _ _ _ _ _ _ _ _ _ _ _ _ _ _ (F0 mX 10 ls [.int (nI (mk (frD σ d) (σ 1))), .int (nI (mk (mng σ d) (σ 1)))])
  refine lv_iconst (v := (nI NN)) hx hb dX0_honestFor_10 (by decide) ?_
  refine lv_ixor hx hb dX0_honestFor_11 ?_
  refine ti (nx_xor (mk (frD σ d) (σ 1)) NN) ?_
  refine lv_iand hx hb dX0_honestFor_12 ?_
  refine ti (nx_and (mk (mng σ d) (σ 1)) ((mk (frD σ d) (σ 1)) ^^^ NN)) ?_
  refine ti (show (nI ((mk (mng σ d) (σ 1)) &&& ((mk (frD σ d) (σ 1)) ^^^ NN))) = (nI (mk (hon σ d) (σ 1))) from (by rw [nb_diffN (by omega), ho_eq])) ?_
  exact rd_i rfl hx hb hr dX0_honestFor_13 hlk
set_option maxHeartbeats 4000000 in
set_option maxRecDepth 100000 in
theorem c_X0_faultOfAsking (l : Launch) (g : va_G) (cy : Nat → ClassId) (sz : Nat) (a : Nat → Nat) (σ : Nat → Nat) (b : Nat → Nat → Int32) (bd : Nat) (d9 : Int32) (hwf : WF bd σ) (hbr : BR σ b) : Met l yX0_faultOfAsking (Cond.code yX0_faultOfAsking cX0_faultOfAsking 2 (some .int) :: wsL_law) ({ frames := 2, cells := 0, slots := 0, locals := 44 } : Room) (va_Pc [.ref (a 0), .int d9] (pr g cy [(a 0, .inr (0, [.ref (a 1), .ref (a 4), .ref (a 6), .ref (a 8), .ref (a 9), .int (nI (σ 2)), .int (nI (σ 3)), .int (nI (σ 4)), .int (nI (σ 5)), .int (nI (σ 6)), .int (nI (σ 7))])), (a 1, .inr (2, [.ref (a 2), .ref (a 3), .int (nI (cmk σ))])), aI cy (a 2) 144 (wv σ), aI cy (a 3) 12 (b 1), (a 4, .inr (3, [.int (nI 6), .int (nI 11), .ref (a 5), .int (nI (σ 0))])), aI cy (a 5) 66 (b 2), (a 6, .inr (3, [.int (nI 20), .int (nI 6), .ref (a 7), .int (nI (σ 1))])), aI cy (a 7) 120 (b 3), aI cy (a 8) 8 (mS (pu σ)), aI cy (a 9) 6 (b 5)] sz)) (rd_Q (some (.int (nI (fAsk σ d9))))) 0 0 (nF) := by
  refine mt_of (cc := cX0_faultOfAsking) (maxL := 2) (ret := (some .int)) (by decide +kernel) (Nat.le_of_ble_eq_true rfl) ?_
  intro pX eX s mX below meth cX ls A hx hb hr hml hown hts hlk hin hsz hAe hA hP hD hK hX hl
  have hl : lv_has ls 2 [(0, .ref (a 0)), (1, .int d9)] := hl
  have hS : va_S A s.heap s.heap [] := va_S.rf
  have hn0 := hwf.n0
  have hn1 := hwf.n1
  have hh2 := hwf.h2
  refine lv_aload_n hx hb dX0_faultOfAsking_0 rfl (lv_at hl 0 rfl) ?_
  refine va_get (D := g) (ci := 0) (v := .ref (a 4)) (C := RX0) (T := TX0) (N := 11) hx hb hts bgX0 hown hK hP 0 rfl rfl 1 (by decide) (hts _ wd2_12) (fun _ h9 => h9) rfl dX0_faultOfAsking_1 ?_
  refine lv_iload_n hx hb dX0_faultOfAsking_4 rfl (lv_at hl 1 rfl) ?_
  refine rd_call (va_runV (As := [.int d9]) (rest := []) ⟨hx, hb, hml, hown, hts⟩ (c_X3_has l g cy (a 4) (a 5) s.heap.size 6 11 66 (b 2) (σ 0) d9 (by omega)) ⟨(cB 1 hts wd15_6 wd2_11 wd15_3 rfl rfl (by decide +kernel) ⟨Nat.le_of_ble_eq_true rfl, Nat.le_of_ble_eq_true rfl⟩), hts _ wd15_4, hts _ wd15_5⟩ (pv hK hP hD hS hA hX [4, 5] rfl rfl 3 4 rfl rfl) rfl rfl hl.1 rfl (lv_room (Nat.le_of_ble_eq_true rfl)) dX0_faultOfAsking_5 ⟨Nat.zero_le _, Nat.zero_le _⟩) ?_
  show W _ _ _ _ _ _ _ _ _ _ _ _ _ _ _ (F0 mX 8 ls [.int (bI (hasR (σ 0) d9))])
  refine lv_if_ne (tgt := 13) hx hb dX0_faultOfAsking_8 (by decide) (fun c_8 => ?_) (fun c_8 => ?_)
  · have c_8 := (bI_ne0.mp c_8)
    have hr9 := c_8
    simp only [hasR, Bool.and_eq_true, Bool.not_eq_true', decide_eq_false_iff_not] at hr9
    obtain ⟨j, hj, rfl⟩ := rowN (n := σ 0) (by omega) hr9.1 hr9.2
    refine lv_aload_n hx hb dX0_faultOfAsking_13 rfl (lv_at hl 0 rfl) ?_
    refine lv_iload_n hx hb dX0_faultOfAsking_14 rfl (lv_at hl 1 rfl) ?_
    refine rd_call (va_runV (As := [.int (nI j)]) (rest := []) ⟨hx, hb, hml, hown, hts⟩ (c_X0_isMissing l g cy  s.heap.size a σ b bd j hwf hbr (by omega)) ⟨(cB 1 hts wd13_19 wd1_12 wd13_16 rfl rfl (by decide +kernel) ⟨Nat.le_of_ble_eq_true rfl, Nat.le_of_ble_eq_true rfl⟩), hts _ wd13_17, hts _ wd13_18⟩ (pv hK hP hD hS hA hX [0, 1, 2, 3, 4, 5, 6, 7, 8, 9] rfl rfl 0 0 rfl rfl) rfl rfl hl.1 rfl (lv_room (Nat.le_of_ble_eq_true rfl)) dX0_faultOfAsking_15 ⟨Nat.zero_le _, Nat.zero_le _⟩) ?_
    show W _ _ _ _ _ _ _ _ _ _ _ _ _ _ _ (F0 mX 18 ls [.int (bI (decide (j < σ 0) && msg σ j))])
    refine ti (show (bI (decide (j < σ 0) && msg σ j)) = (bI (msg σ j)) from (by simp [hj])) ?_
    refine lv_if_eq (tgt := 25) hx hb dX0_faultOfAsking_18 (by decide) (fun c_18 => ?_) (fun c_18 => ?_)
    · have c_18 := (bI_eq0.mp c_18)
      refine lv_iconst (v := (nI 3)) hx hb dX0_faultOfAsking_25 (by decide) ?_
      exact rd_i (by simp [fAsk, c_8, c_18, nI_clamp (show j < 2 ^ 31 by omega)]) hx hb hr dX0_faultOfAsking_26 hlk
    · have c_18 := (bI_ne0.mp c_18)
      refine lv_iconst (v := (nI 0)) hx hb dX0_faultOfAsking_21 (by decide) ?_
      refine lv_goto (tgt := 26) hx hb dX0_faultOfAsking_22 (by decide) ?_
      exact rd_i (by simp [fAsk, c_8, c_18, nI_clamp (show j < 2 ^ 31 by omega)]) hx hb hr dX0_faultOfAsking_26 hlk
  · have c_8 := (bI_eq0.mp c_8)
    refine lv_iconst (v := (nI 1)) hx hb dX0_faultOfAsking_11 (by decide) ?_
    exact rd_i (by simp [fAsk, c_8]) hx hb hr dX0_faultOfAsking_12 hlk
set_option maxHeartbeats 4000000 in
set_option maxRecDepth 100000 in
theorem c_X0_canReach (l : Launch) (g : va_G) (cy : Nat → ClassId) (sz : Nat) (a : Nat → Nat) (σ : Nat → Nat) (b : Nat → Nat → Int32) (bd : Nat) (d : Nat) (c : Nat) (ho : Nat) (hwf : WF bd σ) (hbr : BR σ b) (hd : d < σ 0) (hc9 : c < 12) (hho : ho = mk (hon σ d) (σ 1)) : Met l yX0_canReach (Cond.code yX0_canReach cX0_canReach 8 (some .boolean) :: wsL_law) ({ frames := 1, cells := 0, slots := 0, locals := 24 } : Room) (va_Pc [.ref (a 0), .int (nI d), .int (nI c), .int (nI ho)] (pr g cy [(a 0, .inr (0, [.ref (a 1), .ref (a 4), .ref (a 6), .ref (a 8), .ref (a 9), .int (nI (σ 2)), .int (nI (σ 3)), .int (nI (σ 4)), .int (nI (σ 5)), .int (nI (σ 6)), .int (nI (σ 7))])), (a 1, .inr (2, [.ref (a 2), .ref (a 3), .int (nI (cmk σ))])), aI cy (a 2) 144 (wv σ), aI cy (a 3) 12 (b 1), (a 4, .inr (3, [.int (nI 6), .int (nI 11), .ref (a 5), .int (nI (σ 0))])), aI cy (a 5) 66 (b 2), (a 6, .inr (3, [.int (nI 20), .int (nI 6), .ref (a 7), .int (nI (σ 1))])), aI cy (a 7) 120 (b 3), aI cy (a 8) 8 (mS (pu σ)), aI cy (a 9) 6 (b 5)] sz)) (rd_Q (some (.int (bI (cbe σ d c))))) 0 0 (nF) := by
  refine mt_of (cc := cX0_canReach) (maxL := 8) (ret := (some .boolean)) (by decide +kernel) (Nat.le_of_ble_eq_true rfl) ?_
  intro pX eX s mX below meth cX ls A hx hb hr hml hown hts hlk hin hsz hAe hA hP hD hK hX hl
  have hl : lv_has ls 8 [(0, .ref (a 0)), (1, .int (nI d)), (2, .int (nI c)), (3, .int (nI ho))] := hl
  have hS : va_S A s.heap s.heap [] := va_S.rf
  have hn0 := hwf.n0
  have hn1 := hwf.n1
  have hh2 := hwf.h2
  have hdb := hwf.db hd
  have hho9 : ho < 2 ^ 20 := by rw [hho]; exact Nat.lt_of_lt_of_le (mk_lt _ (σ 1)) (Nat.pow_le_pow_right (by decide) hn1)
  have hp1 : dg σ d 1 * (σ 2 - dg σ d 3) ≤ 300000 := mul_le_of (show dg σ d 1 ≤ 3 by omega) (show σ 2 - dg σ d 3 ≤ 100000 by omega) (by decide)
  refine lv_aload_n hx hb dX0_canReach_0 rfl (lv_at hl 0 rfl) ?_
  refine va_get (D := g) (ci := 0) (v := .ref (a 4)) (C := RX0) (T := TX0) (N := 11) hx hb hts bgX0 hown hK hP 0 rfl rfl 1 (by decide) (hts _ wd2_12) (fun _ h9 => h9) rfl dX0_canReach_1 ?_
  refine lv_iload_n hx hb dX0_canReach_4 rfl (lv_at hl 1 rfl) ?_
  refine lv_iconst (v := (nI 1)) hx hb dX0_canReach_5 (by decide) ?_
  refine rd_call (va_runV (As := [.int (nI d), .int (nI 1)]) (rest := []) ⟨hx, hb, hml, hown, hts⟩ (c_X3_get l g cy (a 4) (a 5) s.heap.size 6 11 66 (b 2) (σ 0) (nI d) 1 (by omega) (by omega) (by omega) (by omega) (by omega) (by omega)) ⟨(cB 2 hts wd13_23 wd2_11 wd13_20 rfl rfl (by decide +kernel) ⟨Nat.le_of_ble_eq_true rfl, Nat.le_of_ble_eq_true rfl⟩), hts _ wd13_21, hts _ wd13_22⟩ (pv hK hP hD hS hA hX [4, 5] rfl rfl 3 4 rfl rfl) rfl rfl hl.1 rfl (lv_room (Nat.le_of_ble_eq_true rfl)) dX0_canReach_6 ⟨Nat.zero_le _, Nat.zero_le _⟩) ?_
  refine ti (show getR (b 2) 11 (σ 0) (nI d) 1 = (nI (dg σ d 1)) from (hbr.gd hn0 (by omega) (by decide))) ?_
  refine lv_istore (lv' := [(4, .int (nI (dg σ d 1))), (0, .ref (a 0)), (1, .int (nI d)), (2, .int (nI c)), (3, .int (nI ho))]) hx hb dX0_canReach_9 hl (by decide) rfl (fun ls hl => ?_)
  refine lv_aload_n hx hb dX0_canReach_11 rfl (lv_at hl 1 rfl) ?_
  refine va_get (D := g) (ci := 0) (v := .int (nI (σ 2))) (C := RX0) (T := TX0) (N := 11) hx hb hts bgX0 hown hK hP 0 rfl rfl 5 (by decide) (hts _ wd4_0) (fun _ h9 => h9) rfl dX0_canReach_12 ?_
  refine lv_aload_n hx hb dX0_canReach_15 rfl (lv_at hl 1 rfl) ?_
  refine va_get (D := g) (ci := 0) (v := .ref (a 4)) (C := RX0) (T := TX0) (N := 11) hx hb hts bgX0 hown hK hP 0 rfl rfl 1 (by decide) (hts _ wd2_12) (fun _ h9 => h9) rfl dX0_canReach_16 ?_
  refine lv_iload_n hx hb dX0_canReach_19 rfl (lv_at hl 2 rfl) ?_
  refine lv_iconst (v := (nI 3)) hx hb dX0_canReach_20 (by decide) ?_
  refine rd_call (va_runV (As := [.int (nI d), .int (nI 3)]) (rest := [.int (nI (σ 2))]) ⟨hx, hb, hml, hown, hts⟩ (c_X3_get l g cy (a 4) (a 5) s.heap.size 6 11 66 (b 2) (σ 0) (nI d) 3 (by omega) (by omega) (by omega) (by omega) (by omega) (by omega)) ⟨(cB 2 hts wd13_23 wd2_11 wd13_20 rfl rfl (by decide +kernel) ⟨Nat.le_of_ble_eq_true rfl, Nat.le_of_ble_eq_true rfl⟩), hts _ wd13_21, hts _ wd13_22⟩ (pv hK hP hD hS hA hX [4, 5] rfl rfl 3 4 rfl rfl) rfl rfl hl.1 rfl (lv_room (Nat.le_of_ble_eq_true rfl)) dX0_canReach_21 ⟨Nat.zero_le _, Nat.zero_le _⟩) ?_
  refine ti (show getR (b 2) 11 (σ 0) (nI d) 3 = (nI (dg σ d 3)) from (hbr.gd hn0 (by omega) (by decide))) ?_
  refine lv_isub hx hb dX0_canReach_24 ?_
  refine ti (show ((nI (σ 2)) - (nI (dg σ d 3))) = (nI (σ 2 - dg σ d 3)) from (pk_sub (by omega))) ?_
  refine lv_istore (lv' := [(5, .int (nI (σ 2 - dg σ d 3))), (4, .int (nI (dg σ d 1))), (0, .ref (a 0)), (1, .int (nI d)), (2, .int (nI c)), (3, .int (nI ho))]) hx hb dX0_canReach_25 hl (by decide) rfl (fun ls hl => ?_)
  refine lv_aload_n hx hb dX0_canReach_27 rfl (lv_at hl 2 rfl) ?_
  refine va_get (D := g) (ci := 0) (v := .ref (a 1)) (C := RX0) (T := TX0) (N := 11) hx hb hts bgX0 hown hK hP 0 rfl rfl 0 (by decide) (hts _ wd2_8) (fun _ h9 => h9) rfl dX0_canReach_28 ?_
  refine lv_aload_n hx hb dX0_canReach_31 rfl (lv_at hl 2 rfl) ?_
  refine va_get (D := g) (ci := 0) (v := .ref (a 4)) (C := RX0) (T := TX0) (N := 11) hx hb hts bgX0 hown hK hP 0 rfl rfl 1 (by decide) (hts _ wd2_12) (fun _ h9 => h9) rfl dX0_canReach_32 ?_
  refine lv_iload_n hx hb dX0_canReach_35 rfl (lv_at hl 3 rfl) ?_
  refine lv_iconst (v := (nI 2)) hx hb dX0_canReach_36 (by decide) ?_
  refine rd_call (va_runV (As := [.int (nI d), .int (nI 2)]) (rest := [.ref (a 1)]) ⟨hx, hb, hml, hown, hts⟩ (c_X3_get l g cy (a 4) (a 5) s.heap.size 6 11 66 (b 2) (σ 0) (nI d) 2 (by omega) (by omega) (by omega) (by omega) (by omega) (by omega)) ⟨(cB 2 hts wd13_23 wd2_11 wd13_20 rfl rfl (by decide +kernel) ⟨Nat.le_of_ble_eq_true rfl, Nat.le_of_ble_eq_true rfl⟩), hts _ wd13_21, hts _ wd13_22⟩ (pv hK hP hD hS hA hX [4, 5] rfl rfl 3 4 rfl rfl) rfl rfl hl.1 rfl (lv_room (Nat.le_of_ble_eq_true rfl)) dX0_canReach_37 ⟨Nat.zero_le _, Nat.zero_le _⟩) ?_
  refine ti (show getR (b 2) 11 (σ 0) (nI d) 2 = (nI (dg σ d 2)) from (hbr.gd hn0 (by omega) (by decide))) ?_
  refine lv_iload_n hx hb dX0_canReach_40 rfl (lv_at hl 4 rfl) ?_
  refine lv_iload hx hb dX0_canReach_41 (lv_at hl 1 rfl) ?_
  refine lv_iload hx hb dX0_canReach_43 (lv_at hl 0 rfl) ?_
  refine lv_imul hx hb dX0_canReach_45 ?_
  refine ti (pk_mul (dg σ d 1) (σ 2 - dg σ d 3)) ?_
  refine rd_call (va_runV (As := [.int (nI (dg σ d 2)), .int (nI c), .int (nI ((dg σ d 1) * (σ 2 - dg σ d 3)))]) (rest := []) ⟨hx, hb, hml, hown, hts⟩ (c_X2_isWithin l g cy (a 1) (a 2) (a 3) s.heap.size σ (wv σ) (b 1) (cmk σ) (dg σ d 2) c ((dg σ d 1) * (σ 2 - dg σ d 3)) (fun _ _ => rfl) (by omega) (by omega) (by omega)) ⟨(cB 3 hts wd15_18 wd2_7 wd15_15 rfl rfl (by decide +kernel) ⟨Nat.le_of_ble_eq_true rfl, Nat.le_of_ble_eq_true rfl⟩), hts _ wd15_16, hts _ wd15_17⟩ (pv hK hP hD hS hA hX [1, 2, 3] rfl rfl 2 1 rfl rfl) rfl rfl hl.1 rfl (lv_room (Nat.le_of_ble_eq_true rfl)) dX0_canReach_46 ⟨Nat.zero_le _, Nat.zero_le _⟩) ?_
  show W _ _ _ _ _ _ _ _ _ _ _ _ _ _ _ (F0 mX 49 ls [.int (bI (rch σ (dg σ d 2) c ((dg σ d 1) * (σ 2 - dg σ d 3))))])
  refine lv_if_ne (tgt := 54) hx hb dX0_canReach_49 (by decide) (fun c_49 => ?_) (fun c_49 => ?_)
  · have c_49 := (bI_ne0.mp c_49)
    refine lv_iconst (v := (nI 0)) hx hb dX0_canReach_54 (by decide) ?_
    refine lv_istore (lv' := [(6, .int (nI 0)), (5, .int (nI (σ 2 - dg σ d 3))), (4, .int (nI (dg σ d 1))), (0, .ref (a 0)), (1, .int (nI d)), (2, .int (nI c)), (3, .int (nI ho))]) hx hb dX0_canReach_55 hl (by decide) rfl (fun ls hl => ?_)
    refine lp_rd (σ := (Nat)) (fun x9 ls9 => lv_has ls9 8 [(0, .ref (a 0)), (1, .int (nI d)), (2, .int (nI c)), (3, .int (nI ho)), (4, .int (nI (dg σ d 1))), (6, .int (nI x9))] ∧ (x9 ≤ σ 1) ∧ (al (fun s => !hon σ d s || rch σ (sg σ s 1) c (dg σ d 1 * (σ 2 - sg σ s 2))) x9 = true)) (fun x9 => σ 1 - x9) (0) ⟨lv_sub hl [3, 4, 5, 6, 2, 0] rfl, (by omega), rfl⟩ ?_
    rintro s9 ls ⟨hl, hs9, he⟩ ih57
    try dsimp only at hl hs9 he ih57
    refine lv_iload hx hb dX0_canReach_57 (lv_at hl 5 rfl) ?_
    refine lv_aload_n hx hb dX0_canReach_59 rfl (lv_at hl 0 rfl) ?_
    refine va_get (D := g) (ci := 0) (v := .ref (a 6)) (C := RX0) (T := TX0) (N := 11) hx hb hts bgX0 hown hK hP 0 rfl rfl 2 (by decide) (hts _ wd2_13) (fun _ h9 => h9) rfl dX0_canReach_60 ?_
    refine rd_call (va_runV (As := []) (rest := [.int (nI s9)]) ⟨hx, hb, hml, hown, hts⟩ (c_X3_count l g cy (a 6) (a 7) s.heap.size 20 6 120 (b 3) (σ 1) ) ⟨(cB 0 hts wd13_15 wd2_11 wd13_12 rfl rfl (by decide +kernel) ⟨Nat.le_of_ble_eq_true rfl, Nat.le_of_ble_eq_true rfl⟩), hts _ wd13_13, hts _ wd13_14⟩ (pv hK hP hD hS hA hX [6, 7] rfl rfl 3 6 rfl rfl) rfl rfl hl.1 rfl (lv_room (Nat.le_of_ble_eq_true rfl)) dX0_canReach_63 ⟨Nat.zero_le _, Nat.zero_le _⟩) ?_
    show W _ _ _ _ _ _ _ _ _ _ _ _ _ _ _ (F0 mX 66 ls [.int (nI (σ 1)), .int (nI s9)])
    refine lv_icmp_ge (tgt := 129) hx hb dX0_canReach_66 (by decide) (fun c_66 => ?_) (fun c_66 => ?_)
    · have c_66 := (nc_le (by omega) (by omega) c_66)
      have e9 : s9 = σ 1 := by omega
      subst e9
      refine lv_iconst (v := (nI 1)) hx hb dX0_canReach_129 (by decide) ?_
      exact rd_z (by simp [cbe, c_49, he, bI, nI_o]) hx hb hr dX0_canReach_130 hlk
    · have c_66 := (nc_nle (by omega) (by omega) c_66)
      have hsb := hwf.sb (show s9 < σ 1 by omega)
      have hp2 : dg σ d 1 * (σ 2 - sg σ s9 2) ≤ 300000 := mul_le_of (show dg σ d 1 ≤ 3 by omega) (show σ 2 - sg σ s9 2 ≤ 100000 by omega) (by decide)
      have hbit : hon σ d s9 = ho.testBit s9 := by rw [hho, mk_bit]; simp [show s9 < σ 1 by omega]
      refine lv_aload_n hx hb dX0_canReach_69 rfl (lv_at hl 0 rfl) ?_
      refine va_get (D := g) (ci := 0) (v := .int (nI (σ 2))) (C := RX0) (T := TX0) (N := 11) hx hb hts bgX0 hown hK hP 0 rfl rfl 5 (by decide) (hts _ wd4_0) (fun _ h9 => h9) rfl dX0_canReach_70 ?_
      refine lv_aload_n hx hb dX0_canReach_73 rfl (lv_at hl 0 rfl) ?_
      refine va_get (D := g) (ci := 0) (v := .ref (a 6)) (C := RX0) (T := TX0) (N := 11) hx hb hts bgX0 hown hK hP 0 rfl rfl 2 (by decide) (hts _ wd2_13) (fun _ h9 => h9) rfl dX0_canReach_74 ?_
      refine lv_iload hx hb dX0_canReach_77 (lv_at hl 5 rfl) ?_
      refine lv_iconst (v := (nI 2)) hx hb dX0_canReach_79 (by decide) ?_
      refine rd_call (va_runV (As := [.int (nI s9), .int (nI 2)]) (rest := [.int (nI (σ 2))]) ⟨hx, hb, hml, hown, hts⟩ (c_X3_get l g cy (a 6) (a 7) s.heap.size 20 6 120 (b 3) (σ 1) (nI s9) 2 (by omega) (by omega) (by omega) (by omega) (by omega) (by omega)) ⟨(cB 2 hts wd13_23 wd2_11 wd13_20 rfl rfl (by decide +kernel) ⟨Nat.le_of_ble_eq_true rfl, Nat.le_of_ble_eq_true rfl⟩), hts _ wd13_21, hts _ wd13_22⟩ (pv hK hP hD hS hA hX [6, 7] rfl rfl 3 6 rfl rfl) rfl rfl hl.1 rfl (lv_room (Nat.le_of_ble_eq_true rfl)) dX0_canReach_80 ⟨Nat.zero_le _, Nat.zero_le _⟩) ?_
      refine ti (show getR (b 3) 6 (σ 1) (nI s9) 2 = (nI (sg σ s9 2)) from (hbr.gs hn1 (by omega) (by decide))) ?_
      refine lv_isub hx hb dX0_canReach_83 ?_
      refine ti (show ((nI (σ 2)) - (nI (sg σ s9 2))) = (nI (σ 2 - sg σ s9 2)) from (pk_sub (by omega))) ?_
      refine lv_istore (lv' := [(7, .int (nI (σ 2 - sg σ s9 2))), (0, .ref (a 0)), (1, .int (nI d)), (2, .int (nI c)), (3, .int (nI ho)), (4, .int (nI (dg σ d 1))), (6, .int (nI s9))]) hx hb dX0_canReach_84 hl (by decide) rfl (fun ls hl => ?_)
      refine lv_iload_n hx hb dX0_canReach_86 rfl (lv_at hl 4 rfl) ?_
      refine lv_iload hx hb dX0_canReach_87 (lv_at hl 6 rfl) ?_
      refine rd_call (va_runSN (As := [.int (nI ho), .int (nI s9)]) (rest := []) ⟨hx, hb, hml, hown, hts⟩ (c_X7_hasBit l ho s9 (by omega) (by omega)) ⟨va_cnB 2 hts (bg_call wd5_0) rfl rfl rfl (nM_8 hX) (hts _ wd1_2) (by decide +kernel) ⟨Nat.le_of_ble_eq_true rfl, Nat.le_of_ble_eq_true rfl⟩, hts _ wd4_23, trivial⟩ p0 rfl rfl hl.1 rfl (lv_room (Nat.le_of_ble_eq_true rfl)) dX0_canReach_89 ⟨Nat.zero_le _, Nat.zero_le _⟩) ?_
      show W _ _ _ _ _ _ _ _ _ _ _ _ _ _ _ (F0 mX 92 ls [.int (bI (ho.testBit s9))])
      refine lv_if_eq (tgt := 123) hx hb dX0_canReach_92 (by decide) (fun c_92 => ?_) (fun c_92 => ?_)
      · have c_92 := (bI_eq0.mp c_92)
        refine lv_iinc (v := (nI (s9 + 1))) (lv' := [(6, .int (nI (s9 + 1))), (7, .int (nI (σ 2 - sg σ s9 2))), (0, .ref (a 0)), (1, .int (nI d)), (2, .int (nI c)), (3, .int (nI ho)), (4, .int (nI (dg σ d 1)))]) hx hb dX0_canReach_123 hl (k := 6) rfl (nI_add s9 1) (by decide) rfl (fun ls hl => ?_)
        refine lv_goto (tgt := 57) hx hb dX0_canReach_126 (by decide) ?_
        exact ih57 (s9 + 1) ls ⟨lv_sub hl [2, 3, 4, 5, 6, 0] rfl, (by omega), (by simp [al, he, hbit, c_92])⟩ (by first | omega | (dsimp only; omega))
      · have c_92 := (bI_ne0.mp c_92)
        refine lv_aload_n hx hb dX0_canReach_95 rfl (lv_at hl 1 rfl) ?_
        refine va_get (D := g) (ci := 0) (v := .ref (a 1)) (C := RX0) (T := TX0) (N := 11) hx hb hts bgX0 hown hK hP 0 rfl rfl 0 (by decide) (hts _ wd2_8) (fun _ h9 => h9) rfl dX0_canReach_96 ?_
        refine lv_aload_n hx hb dX0_canReach_99 rfl (lv_at hl 1 rfl) ?_
        refine va_get (D := g) (ci := 0) (v := .ref (a 6)) (C := RX0) (T := TX0) (N := 11) hx hb hts bgX0 hown hK hP 0 rfl rfl 2 (by decide) (hts _ wd2_13) (fun _ h9 => h9) rfl dX0_canReach_100 ?_
        refine lv_iload hx hb dX0_canReach_103 (lv_at hl 6 rfl) ?_
        refine lv_iconst (v := (nI 1)) hx hb dX0_canReach_105 (by decide) ?_
        refine rd_call (va_runV (As := [.int (nI s9), .int (nI 1)]) (rest := [.ref (a 1)]) ⟨hx, hb, hml, hown, hts⟩ (c_X3_get l g cy (a 6) (a 7) s.heap.size 20 6 120 (b 3) (σ 1) (nI s9) 1 (by omega) (by omega) (by omega) (by omega) (by omega) (by omega)) ⟨(cB 2 hts wd13_23 wd2_11 wd13_20 rfl rfl (by decide +kernel) ⟨Nat.le_of_ble_eq_true rfl, Nat.le_of_ble_eq_true rfl⟩), hts _ wd13_21, hts _ wd13_22⟩ (pv hK hP hD hS hA hX [6, 7] rfl rfl 3 6 rfl rfl) rfl rfl hl.1 rfl (lv_room (Nat.le_of_ble_eq_true rfl)) dX0_canReach_106 ⟨Nat.zero_le _, Nat.zero_le _⟩) ?_
        refine ti (show getR (b 3) 6 (σ 1) (nI s9) 1 = (nI (sg σ s9 1)) from (hbr.gs hn1 (by omega) (by decide))) ?_
        refine lv_iload_n hx hb dX0_canReach_109 rfl (lv_at hl 3 rfl) ?_
        refine lv_iload hx hb dX0_canReach_110 (lv_at hl 5 rfl) ?_
        refine lv_iload hx hb dX0_canReach_112 (lv_at hl 0 rfl) ?_
        refine lv_imul hx hb dX0_canReach_114 ?_
        refine ti (pk_mul (dg σ d 1) (σ 2 - sg σ s9 2)) ?_
        refine rd_call (va_runV (As := [.int (nI (sg σ s9 1)), .int (nI c), .int (nI ((dg σ d 1) * (σ 2 - sg σ s9 2)))]) (rest := []) ⟨hx, hb, hml, hown, hts⟩ (c_X2_isWithin l g cy (a 1) (a 2) (a 3) s.heap.size σ (wv σ) (b 1) (cmk σ) (sg σ s9 1) c ((dg σ d 1) * (σ 2 - sg σ s9 2)) (fun _ _ => rfl) (by omega) (by omega) (by omega)) ⟨(cB 3 hts wd15_18 wd2_7 wd15_15 rfl rfl (by decide +kernel) ⟨Nat.le_of_ble_eq_true rfl, Nat.le_of_ble_eq_true rfl⟩), hts _ wd15_16, hts _ wd15_17⟩ (pv hK hP hD hS hA hX [1, 2, 3] rfl rfl 2 1 rfl rfl) rfl rfl hl.1 rfl (lv_room (Nat.le_of_ble_eq_true rfl)) dX0_canReach_115 ⟨Nat.zero_le _, Nat.zero_le _⟩) ?_
        show W _ _ _ _ _ _ _ _ _ _ _ _ _ _ _ (F0 mX 118 ls [.int (bI (rch σ (sg σ s9 1) c ((dg σ d 1) * (σ 2 - sg σ s9 2))))])
        refine lv_if_ne (tgt := 123) hx hb dX0_canReach_118 (by decide) (fun c_118 => ?_) (fun c_118 => ?_)
        · have c_118 := (bI_ne0.mp c_118)
          refine lv_iinc (v := (nI (s9 + 1))) (lv' := [(6, .int (nI (s9 + 1))), (7, .int (nI (σ 2 - sg σ s9 2))), (0, .ref (a 0)), (1, .int (nI d)), (2, .int (nI c)), (3, .int (nI ho)), (4, .int (nI (dg σ d 1)))]) hx hb dX0_canReach_123 hl (k := 6) rfl (nI_add s9 1) (by decide) rfl (fun ls hl => ?_)
          refine lv_goto (tgt := 57) hx hb dX0_canReach_126 (by decide) ?_
          exact ih57 (s9 + 1) ls ⟨lv_sub hl [2, 3, 4, 5, 6, 0] rfl, (by omega), (by simp [al, he, hbit, c_118])⟩ (by first | omega | (dsimp only; omega))
        · have c_118 := (bI_eq0.mp c_118)
          refine lv_iconst (v := (nI 0)) hx hb dX0_canReach_121 (by decide) ?_
          exact rd_z (by rw [show cbe σ d c = false from by unfold cbe; rw [show al (fun s => !hon σ d s || rch σ (sg σ s 1) c (dg σ d 1 * (σ 2 - sg σ s 2))) (σ 1) = false from by apply Classical.byContradiction; intro z; have z2 := al_iff.mp (by simpa using z) s9 (by omega); simp [hbit, c_92, c_118] at z2]; simp]; rfl) hx hb hr dX0_canReach_122 hlk
  · have c_49 := (bI_eq0.mp c_49)
    refine lv_iconst (v := (nI 0)) hx hb dX0_canReach_52 (by decide) ?_
    exact rd_z (by simp [cbe, c_49, bI, nI_0]) hx hb hr dX0_canReach_53 hlk
set_option maxHeartbeats 4000000 in
set_option maxRecDepth 100000 in
theorem c_X0_placesOf (l : Launch) (g : va_G) (cy : Nat → ClassId) (sz : Nat) (a : Nat → Nat) (σ : Nat → Nat) (b : Nat → Nat → Int32) (bd : Nat) (d : Nat) (hwf : WF bd σ) (hbr : BR σ b) (hd : d < σ 0) : Met l yX0_placesOf (Cond.code yX0_placesOf cX0_placesOf 5 (some .int) :: wsL_law) ({ frames := 4, cells := 0, slots := 0, locals := 97 } : Room) (va_Pc [.ref (a 0), .int (nI d)] (pr g cy [(a 0, .inr (0, [.ref (a 1), .ref (a 4), .ref (a 6), .ref (a 8), .ref (a 9), .int (nI (σ 2)), .int (nI (σ 3)), .int (nI (σ 4)), .int (nI (σ 5)), .int (nI (σ 6)), .int (nI (σ 7))])), (a 1, .inr (2, [.ref (a 2), .ref (a 3), .int (nI (cmk σ))])), aI cy (a 2) 144 (wv σ), aI cy (a 3) 12 (b 1), (a 4, .inr (3, [.int (nI 6), .int (nI 11), .ref (a 5), .int (nI (σ 0))])), aI cy (a 5) 66 (b 2), (a 6, .inr (3, [.int (nI 20), .int (nI 6), .ref (a 7), .int (nI (σ 1))])), aI cy (a 7) 120 (b 3), aI cy (a 8) 8 (mS (pu σ)), aI cy (a 9) 6 (b 5)] sz)) (rd_Q (some (.int (nI (mk (cbe σ d) 12))))) 0 0 (nF) := by
  refine mt_of (cc := cX0_placesOf) (maxL := 5) (ret := (some .int)) (by decide +kernel) (Nat.le_of_ble_eq_true rfl) ?_
  intro pX eX s mX below meth cX ls A hx hb hr hml hown hts hlk hin hsz hAe hA hP hD hK hX hl
  have hl : lv_has ls 5 [(0, .ref (a 0)), (1, .int (nI d))] := hl
  have hS : va_S A s.heap s.heap [] := va_S.rf
  have hn0 := hwf.n0
  have hn1 := hwf.n1
  have hh2 := hwf.h2
  refine lv_aload_n hx hb dX0_placesOf_0 rfl (lv_at hl 0 rfl) ?_
  refine lv_iload_n hx hb dX0_placesOf_1 rfl (lv_at hl 1 rfl) ?_
  refine rd_call (va_runV (As := [.int (nI d)]) (rest := []) ⟨hx, hb, hml, hown, hts⟩ (c_X0_honestFor l g cy  s.heap.size a σ b bd d hwf hbr (by omega)) ⟨(cB 1 hts wd19_16 wd1_12 wd19_13 rfl rfl (by decide +kernel) ⟨Nat.le_of_ble_eq_true rfl, Nat.le_of_ble_eq_true rfl⟩), hts _ wd19_14, hts _ wd19_15⟩ (pv hK hP hD hS hA hX [0, 1, 2, 3, 4, 5, 6, 7, 8, 9] rfl rfl 0 0 rfl rfl) rfl rfl hl.1 rfl (lv_room (Nat.le_of_ble_eq_true rfl)) dX0_placesOf_2 ⟨Nat.zero_le _, Nat.zero_le _⟩) ?_
  show W _ _ _ _ _ _ _ _ _ _ _ _ _ _ _ (F0 mX 5 ls [.int (nI (mk (hon σ d) (σ 1)))])
  refine lv_istore_n (lv' := [(2, .int (nI (mk (hon σ d) (σ 1)))), (0, .ref (a 0)), (1, .int (nI d))]) hx hb dX0_placesOf_5 rfl hl (by decide) rfl (fun ls hl => ?_)
  refine lv_iconst (v := (nI 0)) hx hb dX0_placesOf_6 (by decide) ?_
  refine lv_istore_n (lv' := [(3, .int (nI 0)), (2, .int (nI (mk (hon σ d) (σ 1)))), (0, .ref (a 0)), (1, .int (nI d))]) hx hb dX0_placesOf_7 rfl hl (by decide) rfl (fun ls hl => ?_)
  refine lv_iconst (v := (nI 0)) hx hb dX0_placesOf_8 (by decide) ?_
  refine lv_istore (lv' := [(4, .int (nI 0)), (3, .int (nI 0)), (2, .int (nI (mk (hon σ d) (σ 1)))), (0, .ref (a 0)), (1, .int (nI d))]) hx hb dX0_placesOf_9 hl (by decide) rfl (fun ls hl => ?_)
  have hl : lv_has ls 5 [(4, .int (nI 0)), (3, .int (nI (mk (cbe σ d) 0))), (2, .int (nI (mk (hon σ d) (σ 1)))), (0, .ref (a 0)), (1, .int (nI d))] := by rw [← show (nI 0) = (nI (mk (cbe σ d) 0)) from rfl]; exact hl
  refine lp_rd (σ := (Nat)) (fun x9 ls9 => lv_has ls9 5 [(0, .ref (a 0)), (1, .int (nI d)), (2, .int (nI (mk (hon σ d) (σ 1)))), (3, .int (nI (mk (cbe σ d) x9))), (4, .int (nI x9))] ∧ (x9 ≤ 12)) (fun x9 => 12 - x9) (0) ⟨lv_sub hl [3, 4, 2, 1, 0] rfl, (by omega)⟩ ?_
  rintro c ls ⟨hl, hc⟩ ih11
  try dsimp only at hl hc ih11
  refine lv_iload hx hb dX0_placesOf_11 (lv_at hl 4 rfl) ?_
  refine lv_bipush (v := (nI 12)) hx hb dX0_placesOf_13 (by decide) ?_
  refine lv_icmp_ge (tgt := 46) hx hb dX0_placesOf_15 (by decide) (fun c_15 => ?_) (fun c_15 => ?_)
  · have c_15 := (nc_le (by omega) (by omega) c_15)
    have e9 : c = 12 := by omega
    subst e9
    refine lv_iload_n hx hb dX0_placesOf_46 rfl (lv_at hl 3 rfl) ?_
    exact rd_i (congrArg nI (by simp [c_15])) hx hb hr dX0_placesOf_47 hlk
  · have c_15 := (nc_nle (by omega) (by omega) c_15)
    refine lv_iload_n hx hb dX0_placesOf_18 rfl (lv_at hl 3 rfl) ?_
    refine lv_aload_n hx hb dX0_placesOf_19 rfl (lv_at hl 0 rfl) ?_
    refine lv_iload_n hx hb dX0_placesOf_20 rfl (lv_at hl 1 rfl) ?_
    refine lv_iload hx hb dX0_placesOf_21 (lv_at hl 4 rfl) ?_
    refine lv_iload_n hx hb dX0_placesOf_23 rfl (lv_at hl 2 rfl) ?_
    refine rd_call (va_runV (As := [.int (nI d), .int (nI c), .int (nI (mk (hon σ d) (σ 1)))]) (rest := [.int (nI (mk (cbe σ d) c))]) ⟨hx, hb, hml, hown, hts⟩ (c_X0_canReach l g cy  s.heap.size a σ b bd d c (mk (hon σ d) (σ 1)) hwf hbr (by omega) (by omega) rfl) ⟨(cB 3 hts wd24_9 wd1_12 wd24_6 rfl rfl (by decide +kernel) ⟨Nat.le_of_ble_eq_true rfl, Nat.le_of_ble_eq_true rfl⟩), hts _ wd24_7, hts _ wd24_8⟩ (pv hK hP hD hS hA hX [0, 1, 2, 3, 4, 5, 6, 7, 8, 9] rfl rfl 0 0 rfl rfl) rfl rfl hl.1 rfl (lv_room (Nat.le_of_ble_eq_true rfl)) dX0_placesOf_24 ⟨Nat.zero_le _, Nat.zero_le _⟩) ?_
    show W _ _ _ _ _ _ _ _ _ _ _ _ _ _ _ (F0 mX 27 ls [.int (bI (cbe σ d c)), .int (nI (mk (cbe σ d) c))])
    refine lv_if_eq (tgt := 37) hx hb dX0_placesOf_27 (by decide) (fun c_27 => ?_) (fun c_27 => ?_)
    · have c_27 := (bI_eq0.mp c_27)
      refine lv_iconst (v := (nI 0)) hx hb dX0_placesOf_37 (by decide) ?_
      refine lv_ior hx hb dX0_placesOf_38 ?_
      refine ti (nx_or (mk (cbe σ d) c) 0) ?_
      refine lv_istore_n (lv' := [(3, .int (nI ((mk (cbe σ d) c) ||| 0))), (0, .ref (a 0)), (1, .int (nI d)), (2, .int (nI (mk (hon σ d) (σ 1)))), (4, .int (nI c))]) hx hb dX0_placesOf_39 rfl hl (by decide) rfl (fun ls hl => ?_)
      have hl : lv_has ls 5 [(3, .int (nI (mk (cbe σ d) (c + 1)))), (0, .ref (a 0)), (1, .int (nI d)), (2, .int (nI (mk (hon σ d) (σ 1)))), (4, .int (nI c))] := by rw [← show (nI ((mk (cbe σ d) c) ||| 0)) = (nI (mk (cbe σ d) (c + 1))) from (congrArg nI (by rw [Nat.or_zero]; exact (mk_s0 c_27).symm))]; exact hl
      refine lv_iinc (v := (nI (c + 1))) (lv' := [(4, .int (nI (c + 1))), (3, .int (nI (mk (cbe σ d) (c + 1)))), (0, .ref (a 0)), (1, .int (nI d)), (2, .int (nI (mk (hon σ d) (σ 1))))]) hx hb dX0_placesOf_40 hl (k := 4) rfl (nI_add c 1) (by decide) rfl (fun ls hl => ?_)
      refine lv_goto (tgt := 11) hx hb dX0_placesOf_43 (by decide) ?_
      exact ih11 (c + 1) ls ⟨lv_sub hl [2, 3, 4, 1, 0] rfl, (by omega)⟩ (by first | omega | (dsimp only; omega))
    · have c_27 := (bI_ne0.mp c_27)
      refine lv_iconst (v := (nI 1)) hx hb dX0_placesOf_30 (by decide) ?_
      refine lv_iload hx hb dX0_placesOf_31 (lv_at hl 4 rfl) ?_
      refine lv_ishl hx hb dX0_placesOf_33 ?_
      refine ti (nb_shl (k := c) (by omega)) ?_
      refine lv_goto (tgt := 38) hx hb dX0_placesOf_34 (by decide) ?_
      refine lv_ior hx hb dX0_placesOf_38 ?_
      refine ti (nx_or (mk (cbe σ d) c) (2 ^ c)) ?_
      refine lv_istore_n (lv' := [(3, .int (nI ((mk (cbe σ d) c) ||| (2 ^ c)))), (0, .ref (a 0)), (1, .int (nI d)), (2, .int (nI (mk (hon σ d) (σ 1)))), (4, .int (nI c))]) hx hb dX0_placesOf_39 rfl hl (by decide) rfl (fun ls hl => ?_)
      have hl : lv_has ls 5 [(3, .int (nI (mk (cbe σ d) (c + 1)))), (0, .ref (a 0)), (1, .int (nI d)), (2, .int (nI (mk (hon σ d) (σ 1)))), (4, .int (nI c))] := by rw [← show (nI ((mk (cbe σ d) c) ||| (2 ^ c))) = (nI (mk (cbe σ d) (c + 1))) from (congrArg nI (mk_top c_27))]; exact hl
      refine lv_iinc (v := (nI (c + 1))) (lv' := [(4, .int (nI (c + 1))), (3, .int (nI (mk (cbe σ d) (c + 1)))), (0, .ref (a 0)), (1, .int (nI d)), (2, .int (nI (mk (hon σ d) (σ 1))))]) hx hb dX0_placesOf_40 hl (k := 4) rfl (nI_add c 1) (by decide) rfl (fun ls hl => ?_)
      refine lv_goto (tgt := 11) hx hb dX0_placesOf_43 (by decide) ?_
      exact ih11 (c + 1) ls ⟨lv_sub hl [2, 3, 4, 1, 0] rfl, (by omega)⟩ (by first | omega | (dsimp only; omega))
set_option maxHeartbeats 4000000 in
set_option maxRecDepth 100000 in
theorem c_X0_helpOf (l : Launch) (g : va_G) (cy : Nat → ClassId) (sz : Nat) (a : Nat → Nat) (σ : Nat → Nat) (b : Nat → Nat → Int32) (bd : Nat) (s9 : Nat) (c : Nat) (hwf : WF bd σ) (hbr : BR σ b) (hs : s9 < σ 1) (hc9 : c < 12) : Met l yX0_helpOf (Cond.code yX0_helpOf cX0_helpOf 4 (some .int) :: wsL_law) ({ frames := 1, cells := 0, slots := 0, locals := 24 } : Room) (va_Pc [.ref (a 0), .int (nI s9), .int (nI c)] (pr g cy [(a 0, .inr (0, [.ref (a 1), .ref (a 4), .ref (a 6), .ref (a 8), .ref (a 9), .int (nI (σ 2)), .int (nI (σ 3)), .int (nI (σ 4)), .int (nI (σ 5)), .int (nI (σ 6)), .int (nI (σ 7))])), (a 1, .inr (2, [.ref (a 2), .ref (a 3), .int (nI (cmk σ))])), aI cy (a 2) 144 (wv σ), aI cy (a 3) 12 (b 1), (a 4, .inr (3, [.int (nI 6), .int (nI 11), .ref (a 5), .int (nI (σ 0))])), aI cy (a 5) 66 (b 2), (a 6, .inr (3, [.int (nI 20), .int (nI 6), .ref (a 7), .int (nI (σ 1))])), aI cy (a 7) 120 (b 3), aI cy (a 8) 8 (mS (pu σ)), aI cy (a 9) 6 (b 5)] sz)) (rd_Q (some (.int (nI (hlp σ s9 c))))) 0 0 (nF) := by
  refine mt_of (cc := cX0_helpOf) (maxL := 4) (ret := (some .int)) (by decide +kernel) (Nat.le_of_ble_eq_true rfl) ?_
  intro pX eX s mX below meth cX ls A hx hb hr hml hown hts hlk hin hsz hAe hA hP hD hK hX hl
  have hl : lv_has ls 4 [(0, .ref (a 0)), (1, .int (nI s9)), (2, .int (nI c))] := hl
  have hS : va_S A s.heap s.heap [] := va_S.rf
  have hn0 := hwf.n0
  have hn1 := hwf.n1
  have hh2 := hwf.h2
  have hsb := hwf.sb hs
  refine lv_aload_n hx hb dX0_helpOf_0 rfl (lv_at hl 0 rfl) ?_
  refine va_get (D := g) (ci := 0) (v := .ref (a 1)) (C := RX0) (T := TX0) (N := 11) hx hb hts bgX0 hown hK hP 0 rfl rfl 0 (by decide) (hts _ wd2_8) (fun _ h9 => h9) rfl dX0_helpOf_1 ?_
  refine lv_aload_n hx hb dX0_helpOf_4 rfl (lv_at hl 0 rfl) ?_
  refine va_get (D := g) (ci := 0) (v := .ref (a 6)) (C := RX0) (T := TX0) (N := 11) hx hb hts bgX0 hown hK hP 0 rfl rfl 2 (by decide) (hts _ wd2_13) (fun _ h9 => h9) rfl dX0_helpOf_5 ?_
  refine lv_iload_n hx hb dX0_helpOf_8 rfl (lv_at hl 1 rfl) ?_
  refine lv_iconst (v := (nI 1)) hx hb dX0_helpOf_9 (by decide) ?_
  refine rd_call (va_runV (As := [.int (nI s9), .int (nI 1)]) (rest := [.ref (a 1)]) ⟨hx, hb, hml, hown, hts⟩ (c_X3_get l g cy (a 6) (a 7) s.heap.size 20 6 120 (b 3) (σ 1) (nI s9) 1 (by omega) (by omega) (by omega) (by omega) (by omega) (by omega)) ⟨(cB 2 hts wd13_23 wd2_11 wd13_20 rfl rfl (by decide +kernel) ⟨Nat.le_of_ble_eq_true rfl, Nat.le_of_ble_eq_true rfl⟩), hts _ wd13_21, hts _ wd13_22⟩ (pv hK hP hD hS hA hX [6, 7] rfl rfl 3 6 rfl rfl) rfl rfl hl.1 rfl (lv_room (Nat.le_of_ble_eq_true rfl)) dX0_helpOf_10 ⟨Nat.zero_le _, Nat.zero_le _⟩) ?_
  refine ti (show getR (b 3) 6 (σ 1) (nI s9) 1 = (nI (sg σ s9 1)) from (hbr.gs hn1 (by omega) (by decide))) ?_
  refine lv_iload_n hx hb dX0_helpOf_13 rfl (lv_at hl 2 rfl) ?_
  refine lv_iconst (v := (nI 1)) hx hb dX0_helpOf_14 (by decide) ?_
  refine rd_call (va_runV (As := [.int (nI (sg σ s9 1)), .int (nI c), .int (nI 1)]) (rest := []) ⟨hx, hb, hml, hown, hts⟩ (c_X2_isWithin l g cy (a 1) (a 2) (a 3) s.heap.size σ (wv σ) (b 1) (cmk σ) (sg σ s9 1) c 1 (fun _ _ => rfl) (by omega) (by omega) (by omega)) ⟨(cB 3 hts wd15_18 wd2_7 wd15_15 rfl rfl (by decide +kernel) ⟨Nat.le_of_ble_eq_true rfl, Nat.le_of_ble_eq_true rfl⟩), hts _ wd15_16, hts _ wd15_17⟩ (pv hK hP hD hS hA hX [1, 2, 3] rfl rfl 2 1 rfl rfl) rfl rfl hl.1 rfl (lv_room (Nat.le_of_ble_eq_true rfl)) dX0_helpOf_15 ⟨Nat.zero_le _, Nat.zero_le _⟩) ?_
  show W _ _ _ _ _ _ _ _ _ _ _ _ _ _ _ (F0 mX 18 ls [.int (bI (rch σ (sg σ s9 1) c 1))])
  refine lv_if_eq (tgt := 25) hx hb dX0_helpOf_18 (by decide) (fun c_18 => ?_) (fun c_18 => ?_)
  · have c_18 := (bI_eq0.mp c_18)
    refine lv_iconst (v := (nI 0)) hx hb dX0_helpOf_25 (by decide) ?_
    refine lv_istore_n (lv' := [(3, .int (nI 0)), (0, .ref (a 0)), (1, .int (nI s9)), (2, .int (nI c))]) hx hb dX0_helpOf_26 rfl hl (by decide) rfl (fun ls hl => ?_)
    refine lv_iconst (v := (nI 1)) hx hb dX0_helpOf_27 (by decide) ?_
    refine lv_aload_n hx hb dX0_helpOf_28 rfl (lv_at hl 1 rfl) ?_
    refine va_get (D := g) (ci := 0) (v := .ref (a 6)) (C := RX0) (T := TX0) (N := 11) hx hb hts bgX0 hown hK hP 0 rfl rfl 2 (by decide) (hts _ wd2_13) (fun _ h9 => h9) rfl dX0_helpOf_29 ?_
    refine lv_iload_n hx hb dX0_helpOf_32 rfl (lv_at hl 2 rfl) ?_
    refine lv_iconst (v := (nI 4)) hx hb dX0_helpOf_33 (by decide) ?_
    refine rd_call (va_runV (As := [.int (nI s9), .int (nI 4)]) (rest := [.int (nI 1)]) ⟨hx, hb, hml, hown, hts⟩ (c_X3_get l g cy (a 6) (a 7) s.heap.size 20 6 120 (b 3) (σ 1) (nI s9) 4 (by omega) (by omega) (by omega) (by omega) (by omega) (by omega)) ⟨(cB 2 hts wd13_23 wd2_11 wd13_20 rfl rfl (by decide +kernel) ⟨Nat.le_of_ble_eq_true rfl, Nat.le_of_ble_eq_true rfl⟩), hts _ wd13_21, hts _ wd13_22⟩ (pv hK hP hD hS hA hX [6, 7] rfl rfl 3 6 rfl rfl) rfl rfl hl.1 rfl (lv_room (Nat.le_of_ble_eq_true rfl)) dX0_helpOf_34 ⟨Nat.zero_le _, Nat.zero_le _⟩) ?_
    refine ti (show getR (b 3) 6 (σ 1) (nI s9) 4 = (nI (sg σ s9 4)) from (hbr.gs hn1 (by omega) (by decide))) ?_
    refine lv_iadd hx hb dX0_helpOf_37 ?_
    refine ti (nI_add 1 (sg σ s9 4)) ?_
    refine lv_iload_n hx hb dX0_helpOf_38 rfl (lv_at hl 0 rfl) ?_
    refine lv_iadd hx hb dX0_helpOf_39 ?_
    refine ti (nI_add (1 + (sg σ s9 4)) 0) ?_
    exact rd_i (congrArg nI (by simp [hlp, c_18])) hx hb hr dX0_helpOf_40 hlk
  · have c_18 := (bI_ne0.mp c_18)
    refine lv_iconst (v := (nI 1)) hx hb dX0_helpOf_21 (by decide) ?_
    refine lv_goto (tgt := 26) hx hb dX0_helpOf_22 (by decide) ?_
    refine lv_istore_n (lv' := [(3, .int (nI 1)), (0, .ref (a 0)), (1, .int (nI s9)), (2, .int (nI c))]) hx hb dX0_helpOf_26 rfl hl (by decide) rfl (fun ls hl => ?_)
    refine lv_iconst (v := (nI 1)) hx hb dX0_helpOf_27 (by decide) ?_
    refine lv_aload_n hx hb dX0_helpOf_28 rfl (lv_at hl 1 rfl) ?_
    refine va_get (D := g) (ci := 0) (v := .ref (a 6)) (C := RX0) (T := TX0) (N := 11) hx hb hts bgX0 hown hK hP 0 rfl rfl 2 (by decide) (hts _ wd2_13) (fun _ h9 => h9) rfl dX0_helpOf_29 ?_
    refine lv_iload_n hx hb dX0_helpOf_32 rfl (lv_at hl 2 rfl) ?_
    refine lv_iconst (v := (nI 4)) hx hb dX0_helpOf_33 (by decide) ?_
    refine rd_call (va_runV (As := [.int (nI s9), .int (nI 4)]) (rest := [.int (nI 1)]) ⟨hx, hb, hml, hown, hts⟩ (c_X3_get l g cy (a 6) (a 7) s.heap.size 20 6 120 (b 3) (σ 1) (nI s9) 4 (by omega) (by omega) (by omega) (by omega) (by omega) (by omega)) ⟨(cB 2 hts wd13_23 wd2_11 wd13_20 rfl rfl (by decide +kernel) ⟨Nat.le_of_ble_eq_true rfl, Nat.le_of_ble_eq_true rfl⟩), hts _ wd13_21, hts _ wd13_22⟩ (pv hK hP hD hS hA hX [6, 7] rfl rfl 3 6 rfl rfl) rfl rfl hl.1 rfl (lv_room (Nat.le_of_ble_eq_true rfl)) dX0_helpOf_34 ⟨Nat.zero_le _, Nat.zero_le _⟩) ?_
    refine ti (show getR (b 3) 6 (σ 1) (nI s9) 4 = (nI (sg σ s9 4)) from (hbr.gs hn1 (by omega) (by decide))) ?_
    refine lv_iadd hx hb dX0_helpOf_37 ?_
    refine ti (nI_add 1 (sg σ s9 4)) ?_
    refine lv_iload_n hx hb dX0_helpOf_38 rfl (lv_at hl 0 rfl) ?_
    refine lv_iadd hx hb dX0_helpOf_39 ?_
    refine ti (nI_add (1 + (sg σ s9 4)) 1) ?_
    exact rd_i (congrArg nI (by simp [hlp, c_18])) hx hb hr dX0_helpOf_40 hlk
set_option maxHeartbeats 4000000 in
set_option maxRecDepth 100000 in
theorem c_X0_shareBy (l : Launch) (g : va_G) (cy : Nat → ClassId) (sz : Nat) (a : Nat → Nat) (σ : Nat → Nat) (b : Nat → Nat → Int32) (bd : Nat) (d : Nat) (ho : Nat) (fi : Nat) (c : Nat) (f : Nat) (hwf : WF bd σ) (hbr : BR σ b) (hd : d < σ 0) (hho : ho = mk (hon σ d) (σ 1)) (hfi : fi < 8) (hc9 : c < 12) (hf9 : f < 8) : Met l yX0_shareBy (Cond.code yX0_shareBy cX0_shareBy 10 (some .int) :: wsL_law) ({ frames := 2, cells := 0, slots := 0, locals := 47 } : Room) (va_Pc [.ref (a 0), .int (nI d), .int (nI ho), .int (nI fi), .int (nI c), .int (nI f)] (pr g cy [(a 0, .inr (0, [.ref (a 1), .ref (a 4), .ref (a 6), .ref (a 8), .ref (a 9), .int (nI (σ 2)), .int (nI (σ 3)), .int (nI (σ 4)), .int (nI (σ 5)), .int (nI (σ 6)), .int (nI (σ 7))])), (a 1, .inr (2, [.ref (a 2), .ref (a 3), .int (nI (cmk σ))])), aI cy (a 2) 144 (wv σ), aI cy (a 3) 12 (b 1), (a 4, .inr (3, [.int (nI 6), .int (nI 11), .ref (a 5), .int (nI (σ 0))])), aI cy (a 5) 66 (b 2), (a 6, .inr (3, [.int (nI 20), .int (nI 6), .ref (a 7), .int (nI (σ 1))])), aI cy (a 7) 120 (b 3), aI cy (a 8) 8 (mS (pu σ)), aI cy (a 9) 6 (b 5)] sz)) (rd_Q (some (.int (nI (shr σ d fi c f))))) 0 0 (nF) := by
  refine mt_of (cc := cX0_shareBy) (maxL := 10) (ret := (some .int)) (by decide +kernel) (Nat.le_of_ble_eq_true rfl) ?_
  intro pX eX s mX below meth cX ls A hx hb hr hml hown hts hlk hin hsz hAe hA hP hD hK hX hl
  have hl : lv_has ls 10 [(0, .ref (a 0)), (1, .int (nI d)), (2, .int (nI ho)), (3, .int (nI fi)), (4, .int (nI c)), (5, .int (nI f))] := hl
  have hS : va_S A s.heap s.heap [] := va_S.rf
  have hn0 := hwf.n0
  have hn1 := hwf.n1
  have hh2 := hwf.h2
  have hdb := hwf.db hd
  have hho9 : ho < 2 ^ 20 := by rw [hho]; exact Nat.lt_of_lt_of_le (mk_lt _ (σ 1)) (Nat.pow_le_pow_right (by decide) hn1)
  have hA9 := hwf.hA d c
  have hO9 := hwf.hO d fi c f
  refine jn_i (pcj := 11) (ls := ls) (st := []) (fun v9 => v9 = (nI (if f = fi then 3 else 0))) ?_ (fun jn11 => ?_)
  · intro v9 hv9
    subst hv9
    refine lv_istore (lv' := [(6, .int (nI (if f = fi then 3 else 0))), (0, .ref (a 0)), (1, .int (nI d)), (2, .int (nI ho)), (3, .int (nI fi)), (4, .int (nI c)), (5, .int (nI f))]) hx hb dX0_shareBy_11 hl (by decide) rfl (fun ls hl => ?_)
    refine lv_iconst (v := (nI 3)) hx hb dX0_shareBy_13 (by decide) ?_
    refine lv_istore (lv' := [(7, .int (nI 3)), (6, .int (nI (if f = fi then 3 else 0))), (0, .ref (a 0)), (1, .int (nI d)), (2, .int (nI ho)), (3, .int (nI fi)), (4, .int (nI c)), (5, .int (nI f))]) hx hb dX0_shareBy_14 hl (by decide) rfl (fun ls hl => ?_)
    refine lv_iconst (v := (nI 0)) hx hb dX0_shareBy_16 (by decide) ?_
    refine lv_istore (lv' := [(8, .int (nI 0)), (7, .int (nI 3)), (6, .int (nI (if f = fi then 3 else 0))), (0, .ref (a 0)), (1, .int (nI d)), (2, .int (nI ho)), (3, .int (nI fi)), (4, .int (nI c)), (5, .int (nI f))]) hx hb dX0_shareBy_17 hl (by decide) rfl (fun ls hl => ?_)
    have hl : lv_has ls 10 [(8, .int (nI 0)), (7, .int (nI 3)), (6, .int (nI ((if f = fi then 3 else 0) + sm (fun s => if hon σ d s && decide (sg σ s 0 = f) then hlp σ s c else 0) 0))), (0, .ref (a 0)), (1, .int (nI d)), (2, .int (nI ho)), (3, .int (nI fi)), (4, .int (nI c)), (5, .int (nI f))] := by rw [← show (nI (if f = fi then 3 else 0)) = (nI ((if f = fi then 3 else 0) + sm (fun s => if hon σ d s && decide (sg σ s 0 = f) then hlp σ s c else 0) 0)) from rfl]; exact hl
    have hl : lv_has ls 10 [(8, .int (nI 0)), (7, .int (nI (3 + sm (fun s => if hon σ d s then hlp σ s c else 0) 0))), (6, .int (nI ((if f = fi then 3 else 0) + sm (fun s => if hon σ d s && decide (sg σ s 0 = f) then hlp σ s c else 0) 0))), (0, .ref (a 0)), (1, .int (nI d)), (2, .int (nI ho)), (3, .int (nI fi)), (4, .int (nI c)), (5, .int (nI f))] := by rw [← show (nI 3) = (nI (3 + sm (fun s => if hon σ d s then hlp σ s c else 0) 0)) from rfl]; exact hl
    refine lp_rd (σ := (Nat)) (fun x9 ls9 => lv_has ls9 10 [(0, .ref (a 0)), (1, .int (nI d)), (2, .int (nI ho)), (3, .int (nI fi)), (4, .int (nI c)), (5, .int (nI f)), (6, .int (nI ((if f = fi then 3 else 0) + sm (fun s => if hon σ d s && decide (sg σ s 0 = f) then hlp σ s c else 0) x9))), (7, .int (nI (3 + sm (fun s => if hon σ d s then hlp σ s c else 0) x9))), (8, .int (nI x9))] ∧ (x9 ≤ σ 1)) (fun x9 => σ 1 - x9) (0) ⟨lv_sub hl [3, 4, 5, 6, 7, 8, 2, 1, 0] rfl, (by omega)⟩ ?_
    rintro i ls ⟨hl, hi⟩ ih19
    try dsimp only at hl hi ih19
    refine lv_iload hx hb dX0_shareBy_19 (lv_at hl 8 rfl) ?_
    refine lv_aload_n hx hb dX0_shareBy_21 rfl (lv_at hl 0 rfl) ?_
    refine va_get (D := g) (ci := 0) (v := .ref (a 6)) (C := RX0) (T := TX0) (N := 11) hx hb hts bgX0 hown hK hP 0 rfl rfl 2 (by decide) (hts _ wd2_13) (fun _ h9 => h9) rfl dX0_shareBy_22 ?_
    refine rd_call (va_runV (As := []) (rest := [.int (nI i)]) ⟨hx, hb, hml, hown, hts⟩ (c_X3_count l g cy (a 6) (a 7) s.heap.size 20 6 120 (b 3) (σ 1) ) ⟨(cB 0 hts wd13_15 wd2_11 wd13_12 rfl rfl (by decide +kernel) ⟨Nat.le_of_ble_eq_true rfl, Nat.le_of_ble_eq_true rfl⟩), hts _ wd13_13, hts _ wd13_14⟩ (pv hK hP hD hS hA hX [6, 7] rfl rfl 3 6 rfl rfl) rfl rfl hl.1 rfl (lv_room (Nat.le_of_ble_eq_true rfl)) dX0_shareBy_25 ⟨Nat.zero_le _, Nat.zero_le _⟩) ?_
    show W _ _ _ _ _ _ _ _ _ _ _ _ _ _ _ (F0 mX 28 ls [.int (nI (σ 1)), .int (nI i)])
    refine lv_icmp_ge (tgt := 93) hx hb dX0_shareBy_28 (by decide) (fun c_28 => ?_) (fun c_28 => ?_)
    · have c_28 := (nc_le (by omega) (by omega) c_28)
      have hN9 := hwf.hN d c (σ 1) (Nat.le_refl _)
      have e9 : i = σ 1 := by omega
      subst e9
      have hmul : dg σ d 4 * hOf σ d fi c f ≤ 20000000 := mul_le_of (show dg σ d 4 ≤ 210000 by omega) hO9 (by decide)
      refine lv_iload hx hb dX0_shareBy_93 (lv_at hl 7 rfl) ?_
      refine lv_if_le (tgt := 116) hx hb dX0_shareBy_95 (by decide) (fun c_95 => ?_) (fun c_95 => ?_)
      · have c_95 := (nz_le' c_95 (by omega))
        exact absurd c_95 (by have := hA9.1; unfold hAll at this; omega)
      · have c_95 := (nz_gt' c_95 (by omega))
        refine lv_aload_n hx hb dX0_shareBy_98 rfl (lv_at hl 0 rfl) ?_
        refine va_get (D := g) (ci := 0) (v := .ref (a 4)) (C := RX0) (T := TX0) (N := 11) hx hb hts bgX0 hown hK hP 0 rfl rfl 1 (by decide) (hts _ wd2_12) (fun _ h9 => h9) rfl dX0_shareBy_99 ?_
        refine lv_iload_n hx hb dX0_shareBy_102 rfl (lv_at hl 1 rfl) ?_
        refine lv_iconst (v := (nI 4)) hx hb dX0_shareBy_103 (by decide) ?_
        refine rd_call (va_runV (As := [.int (nI d), .int (nI 4)]) (rest := []) ⟨hx, hb, hml, hown, hts⟩ (c_X3_get l g cy (a 4) (a 5) s.heap.size 6 11 66 (b 2) (σ 0) (nI d) 4 (by omega) (by omega) (by omega) (by omega) (by omega) (by omega)) ⟨(cB 2 hts wd13_23 wd2_11 wd13_20 rfl rfl (by decide +kernel) ⟨Nat.le_of_ble_eq_true rfl, Nat.le_of_ble_eq_true rfl⟩), hts _ wd13_21, hts _ wd13_22⟩ (pv hK hP hD hS hA hX [4, 5] rfl rfl 3 4 rfl rfl) rfl rfl hl.1 rfl (lv_room (Nat.le_of_ble_eq_true rfl)) dX0_shareBy_104 ⟨Nat.zero_le _, Nat.zero_le _⟩) ?_
        refine ti (show getR (b 2) 11 (σ 0) (nI d) 4 = (nI (dg σ d 4)) from (hbr.gd hn0 (by omega) (by decide))) ?_
        refine lv_iload hx hb dX0_shareBy_107 (lv_at hl 6 rfl) ?_
        refine ti (show (nI ((if f = fi then 3 else 0) + sm (fun s => if hon σ d s && decide (sg σ s 0 = f) then hlp σ s c else 0) (σ 1))) = (nI (hOf σ d fi c f)) from rfl) ?_
        refine lv_imul hx hb dX0_shareBy_109 ?_
        refine ti (pk_mul (dg σ d 4) (hOf σ d fi c f)) ?_
        refine lv_iload hx hb dX0_shareBy_110 (lv_at hl 7 rfl) ?_
        refine ti (show (nI (3 + sm (fun s => if hon σ d s then hlp σ s c else 0) (σ 1))) = (nI (hAll σ d c)) from rfl) ?_
        refine lv_idiv hx hb dX0_shareBy_112 (nI_ne0 (by omega) (by omega)) ?_
        refine ti (pk_div (a := ((dg σ d 4) * (hOf σ d fi c f))) (d := (hAll σ d c)) (by omega) (by omega) (by omega)) ?_
        refine lv_goto (tgt := 117) hx hb dX0_shareBy_113 (by decide) ?_
        exact rd_i rfl hx hb hr dX0_shareBy_117 hlk
    · have c_28 := (nc_nle (by omega) (by omega) c_28)
      have hsb := hwf.sb (show i < σ 1 by omega)
      have hbit : hon σ d i = ho.testBit i := by rw [hho, mk_bit]; simp [show i < σ 1 by omega]
      refine jn_i (pcj := 52) (ls := ls) (st := []) (fun v9 => v9 = (nI (if hon σ d i then hlp σ i c else 0))) ?_ (fun jn52 => ?_)
      · intro v9 hv9
        subst hv9
        refine lv_istore (lv' := [(9, .int (nI (if hon σ d i then hlp σ i c else 0))), (0, .ref (a 0)), (1, .int (nI d)), (2, .int (nI ho)), (3, .int (nI fi)), (4, .int (nI c)), (5, .int (nI f)), (6, .int (nI ((if f = fi then 3 else 0) + sm (fun s => if hon σ d s && decide (sg σ s 0 = f) then hlp σ s c else 0) i))), (7, .int (nI (3 + sm (fun s => if hon σ d s then hlp σ s c else 0) i))), (8, .int (nI i))]) hx hb dX0_shareBy_52 hl (by decide) rfl (fun ls hl => ?_)
        refine lv_iload hx hb dX0_shareBy_54 (lv_at hl 8 rfl) ?_
        refine lv_iload hx hb dX0_shareBy_56 (lv_at hl 0 rfl) ?_
        refine lv_iadd hx hb dX0_shareBy_58 ?_
        refine ti (nI_add (3 + sm (fun s => if hon σ d s then hlp σ s c else 0) i) (if hon σ d i then hlp σ i c else 0)) ?_
        refine lv_istore (lv' := [(7, .int (nI ((3 + sm (fun s => if hon σ d s then hlp σ s c else 0) i) + (if hon σ d i then hlp σ i c else 0)))), (9, .int (nI (if hon σ d i then hlp σ i c else 0))), (0, .ref (a 0)), (1, .int (nI d)), (2, .int (nI ho)), (3, .int (nI fi)), (4, .int (nI c)), (5, .int (nI f)), (6, .int (nI ((if f = fi then 3 else 0) + sm (fun s => if hon σ d s && decide (sg σ s 0 = f) then hlp σ s c else 0) i))), (8, .int (nI i))]) hx hb dX0_shareBy_59 hl (by decide) rfl (fun ls hl => ?_)
        refine lv_iload hx hb dX0_shareBy_61 (lv_at hl 8 rfl) ?_
        refine lv_aload_n hx hb dX0_shareBy_63 rfl (lv_at hl 2 rfl) ?_
        refine va_get (D := g) (ci := 0) (v := .ref (a 6)) (C := RX0) (T := TX0) (N := 11) hx hb hts bgX0 hown hK hP 0 rfl rfl 2 (by decide) (hts _ wd2_13) (fun _ h9 => h9) rfl dX0_shareBy_64 ?_
        refine lv_iload hx hb dX0_shareBy_67 (lv_at hl 9 rfl) ?_
        refine lv_iconst (v := (nI 0)) hx hb dX0_shareBy_69 (by decide) ?_
        refine rd_call (va_runV (As := [.int (nI i), .int (nI 0)]) (rest := [.int (nI ((if f = fi then 3 else 0) + sm (fun s => if hon σ d s && decide (sg σ s 0 = f) then hlp σ s c else 0) i))]) ⟨hx, hb, hml, hown, hts⟩ (c_X3_get l g cy (a 6) (a 7) s.heap.size 20 6 120 (b 3) (σ 1) (nI i) 0 (by omega) (by omega) (by omega) (by omega) (by omega) (by omega)) ⟨(cB 2 hts wd13_23 wd2_11 wd13_20 rfl rfl (by decide +kernel) ⟨Nat.le_of_ble_eq_true rfl, Nat.le_of_ble_eq_true rfl⟩), hts _ wd13_21, hts _ wd13_22⟩ (pv hK hP hD hS hA hX [6, 7] rfl rfl 3 6 rfl rfl) rfl rfl hl.1 rfl (lv_room (Nat.le_of_ble_eq_true rfl)) dX0_shareBy_70 ⟨Nat.zero_le _, Nat.zero_le _⟩) ?_
        refine ti (show getR (b 3) 6 (σ 1) (nI i) 0 = (nI (sg σ i 0)) from (hbr.gs hn1 (by omega) (by decide))) ?_
        refine lv_iload hx hb dX0_shareBy_73 (lv_at hl 7 rfl) ?_
        refine lv_icmp_ne (tgt := 83) hx hb dX0_shareBy_75 (by decide) (fun c_75 => ?_) (fun c_75 => ?_)
        · have c_75 := (nc_ne9 (by omega) (by omega) c_75)
          refine lv_iconst (v := (nI 0)) hx hb dX0_shareBy_83 (by decide) ?_
          refine lv_iadd hx hb dX0_shareBy_84 ?_
          refine ti (nI_add ((if f = fi then 3 else 0) + sm (fun s => if hon σ d s && decide (sg σ s 0 = f) then hlp σ s c else 0) i) 0) ?_
          refine lv_istore (lv' := [(6, .int (nI (((if f = fi then 3 else 0) + sm (fun s => if hon σ d s && decide (sg σ s 0 = f) then hlp σ s c else 0) i) + 0))), (7, .int (nI ((3 + sm (fun s => if hon σ d s then hlp σ s c else 0) i) + (if hon σ d i then hlp σ i c else 0)))), (9, .int (nI (if hon σ d i then hlp σ i c else 0))), (0, .ref (a 0)), (1, .int (nI d)), (2, .int (nI ho)), (3, .int (nI fi)), (4, .int (nI c)), (5, .int (nI f)), (8, .int (nI i))]) hx hb dX0_shareBy_85 hl (by decide) rfl (fun ls hl => ?_)
          have hl : lv_has ls 10 [(6, .int (nI ((if f = fi then 3 else 0) + sm (fun s => if hon σ d s && decide (sg σ s 0 = f) then hlp σ s c else 0) (i + 1)))), (7, .int (nI ((3 + sm (fun s => if hon σ d s then hlp σ s c else 0) i) + (if hon σ d i then hlp σ i c else 0)))), (9, .int (nI (if hon σ d i then hlp σ i c else 0))), (0, .ref (a 0)), (1, .int (nI d)), (2, .int (nI ho)), (3, .int (nI fi)), (4, .int (nI c)), (5, .int (nI f)), (8, .int (nI i))] := by rw [← show (nI (((if f = fi then 3 else 0) + sm (fun s => if hon σ d s && decide (sg σ s 0 = f) then hlp σ s c else 0) i) + 0)) = (nI ((if f = fi then 3 else 0) + sm (fun s => if hon σ d s && decide (sg σ s 0 = f) then hlp σ s c else 0) (i + 1))) from (congrArg nI (by simp [sm, c_75, Nat.add_assoc, Bool.and_comm]))]; exact hl
          have hl : lv_has ls 10 [(6, .int (nI ((if f = fi then 3 else 0) + sm (fun s => if hon σ d s && decide (sg σ s 0 = f) then hlp σ s c else 0) (i + 1)))), (7, .int (nI (3 + sm (fun s => if hon σ d s then hlp σ s c else 0) (i + 1)))), (9, .int (nI (if hon σ d i then hlp σ i c else 0))), (0, .ref (a 0)), (1, .int (nI d)), (2, .int (nI ho)), (3, .int (nI fi)), (4, .int (nI c)), (5, .int (nI f)), (8, .int (nI i))] := by rw [← show (nI ((3 + sm (fun s => if hon σ d s then hlp σ s c else 0) i) + (if hon σ d i then hlp σ i c else 0))) = (nI (3 + sm (fun s => if hon σ d s then hlp σ s c else 0) (i + 1))) from (congrArg nI (by simp [sm, Nat.add_assoc]))]; exact hl
          refine lv_iinc (v := (nI (i + 1))) (lv' := [(8, .int (nI (i + 1))), (6, .int (nI ((if f = fi then 3 else 0) + sm (fun s => if hon σ d s && decide (sg σ s 0 = f) then hlp σ s c else 0) (i + 1)))), (7, .int (nI (3 + sm (fun s => if hon σ d s then hlp σ s c else 0) (i + 1)))), (9, .int (nI (if hon σ d i then hlp σ i c else 0))), (0, .ref (a 0)), (1, .int (nI d)), (2, .int (nI ho)), (3, .int (nI fi)), (4, .int (nI c)), (5, .int (nI f))]) hx hb dX0_shareBy_87 hl (k := 9) rfl (nI_add i 1) (by decide) rfl (fun ls hl => ?_)
          refine lv_goto (tgt := 19) hx hb dX0_shareBy_90 (by decide) ?_
          exact ih19 (i + 1) ls ⟨lv_sub hl [4, 5, 6, 7, 8, 9, 1, 2, 0] rfl, (by omega)⟩ (by first | omega | (dsimp only; omega))
        · have c_75 := (nc_eq9 (by omega) (by omega) c_75)
          refine lv_iload hx hb dX0_shareBy_78 (lv_at hl 1 rfl) ?_
          refine lv_goto (tgt := 84) hx hb dX0_shareBy_80 (by decide) ?_
          refine lv_iadd hx hb dX0_shareBy_84 ?_
          refine ti (nI_add ((if f = fi then 3 else 0) + sm (fun s => if hon σ d s && decide (sg σ s 0 = f) then hlp σ s c else 0) i) (if hon σ d i then hlp σ i c else 0)) ?_
          refine lv_istore (lv' := [(6, .int (nI (((if f = fi then 3 else 0) + sm (fun s => if hon σ d s && decide (sg σ s 0 = f) then hlp σ s c else 0) i) + (if hon σ d i then hlp σ i c else 0)))), (7, .int (nI ((3 + sm (fun s => if hon σ d s then hlp σ s c else 0) i) + (if hon σ d i then hlp σ i c else 0)))), (9, .int (nI (if hon σ d i then hlp σ i c else 0))), (0, .ref (a 0)), (1, .int (nI d)), (2, .int (nI ho)), (3, .int (nI fi)), (4, .int (nI c)), (5, .int (nI f)), (8, .int (nI i))]) hx hb dX0_shareBy_85 hl (by decide) rfl (fun ls hl => ?_)
          have hl : lv_has ls 10 [(6, .int (nI ((if f = fi then 3 else 0) + sm (fun s => if hon σ d s && decide (sg σ s 0 = f) then hlp σ s c else 0) (i + 1)))), (7, .int (nI ((3 + sm (fun s => if hon σ d s then hlp σ s c else 0) i) + (if hon σ d i then hlp σ i c else 0)))), (9, .int (nI (if hon σ d i then hlp σ i c else 0))), (0, .ref (a 0)), (1, .int (nI d)), (2, .int (nI ho)), (3, .int (nI fi)), (4, .int (nI c)), (5, .int (nI f)), (8, .int (nI i))] := by rw [← show (nI (((if f = fi then 3 else 0) + sm (fun s => if hon σ d s && decide (sg σ s 0 = f) then hlp σ s c else 0) i) + (if hon σ d i then hlp σ i c else 0))) = (nI ((if f = fi then 3 else 0) + sm (fun s => if hon σ d s && decide (sg σ s 0 = f) then hlp σ s c else 0) (i + 1))) from (congrArg nI (by simp [sm, c_75, Nat.add_assoc, Bool.and_comm]))]; exact hl
          have hl : lv_has ls 10 [(6, .int (nI ((if f = fi then 3 else 0) + sm (fun s => if hon σ d s && decide (sg σ s 0 = f) then hlp σ s c else 0) (i + 1)))), (7, .int (nI (3 + sm (fun s => if hon σ d s then hlp σ s c else 0) (i + 1)))), (9, .int (nI (if hon σ d i then hlp σ i c else 0))), (0, .ref (a 0)), (1, .int (nI d)), (2, .int (nI ho)), (3, .int (nI fi)), (4, .int (nI c)), (5, .int (nI f)), (8, .int (nI i))] := by rw [← show (nI ((3 + sm (fun s => if hon σ d s then hlp σ s c else 0) i) + (if hon σ d i then hlp σ i c else 0))) = (nI (3 + sm (fun s => if hon σ d s then hlp σ s c else 0) (i + 1))) from (congrArg nI (by simp [sm, Nat.add_assoc]))]; exact hl
          refine lv_iinc (v := (nI (i + 1))) (lv' := [(8, .int (nI (i + 1))), (6, .int (nI ((if f = fi then 3 else 0) + sm (fun s => if hon σ d s && decide (sg σ s 0 = f) then hlp σ s c else 0) (i + 1)))), (7, .int (nI (3 + sm (fun s => if hon σ d s then hlp σ s c else 0) (i + 1)))), (9, .int (nI (if hon σ d i then hlp σ i c else 0))), (0, .ref (a 0)), (1, .int (nI d)), (2, .int (nI ho)), (3, .int (nI fi)), (4, .int (nI c)), (5, .int (nI f))]) hx hb dX0_shareBy_87 hl (k := 9) rfl (nI_add i 1) (by decide) rfl (fun ls hl => ?_)
          refine lv_goto (tgt := 19) hx hb dX0_shareBy_90 (by decide) ?_
          exact ih19 (i + 1) ls ⟨lv_sub hl [4, 5, 6, 7, 8, 9, 1, 2, 0] rfl, (by omega)⟩ (by first | omega | (dsimp only; omega))
      · skip
        have hsb := hwf.sb (show i < σ 1 by omega)
        have hbit : hon σ d i = ho.testBit i := by rw [hho, mk_bit]; simp [show i < σ 1 by omega]
        refine lv_iload_n hx hb dX0_shareBy_31 rfl (lv_at hl 2 rfl) ?_
        refine lv_iload hx hb dX0_shareBy_32 (lv_at hl 8 rfl) ?_
        refine rd_call (va_runSN (As := [.int (nI ho), .int (nI i)]) (rest := []) ⟨hx, hb, hml, hown, hts⟩ (c_X7_hasBit l ho i (by omega) (by omega)) ⟨va_cnB 2 hts (bg_call wd5_0) rfl rfl rfl (nM_8 hX) (hts _ wd1_2) (by decide +kernel) ⟨Nat.le_of_ble_eq_true rfl, Nat.le_of_ble_eq_true rfl⟩, hts _ wd4_23, trivial⟩ p0 rfl rfl hl.1 rfl (lv_room (Nat.le_of_ble_eq_true rfl)) dX0_shareBy_34 ⟨Nat.zero_le _, Nat.zero_le _⟩) ?_
        show W _ _ _ _ _ _ _ _ _ _ _ _ _ _ _ (F0 mX 37 ls [.int (bI (ho.testBit i))])
        refine lv_if_eq (tgt := 51) hx hb dX0_shareBy_37 (by decide) (fun c_37 => ?_) (fun c_37 => ?_)
        · have c_37 := (bI_eq0.mp c_37)
          refine lv_iconst (v := (nI 0)) hx hb dX0_shareBy_51 (by decide) ?_
          exact jn52 _ (congrArg nI (by simp [hbit, c_37]))
        · have c_37 := (bI_ne0.mp c_37)
          refine lv_aload_n hx hb dX0_shareBy_40 rfl (lv_at hl 0 rfl) ?_
          refine lv_iload hx hb dX0_shareBy_41 (lv_at hl 8 rfl) ?_
          refine lv_iload hx hb dX0_shareBy_43 (lv_at hl 4 rfl) ?_
          refine rd_call (va_runV (As := [.int (nI i), .int (nI c)]) (rest := []) ⟨hx, hb, hml, hown, hts⟩ (c_X0_helpOf l g cy  s.heap.size a σ b bd i c hwf hbr (by omega) (by omega)) ⟨(cB 2 hts wd16_21 wd1_12 wd16_18 rfl rfl (by decide +kernel) ⟨Nat.le_of_ble_eq_true rfl, Nat.le_of_ble_eq_true rfl⟩), hts _ wd16_19, hts _ wd16_20⟩ (pv hK hP hD hS hA hX [0, 1, 2, 3, 4, 5, 6, 7, 8, 9] rfl rfl 0 0 rfl rfl) rfl rfl hl.1 rfl (lv_room (Nat.le_of_ble_eq_true rfl)) dX0_shareBy_45 ⟨Nat.zero_le _, Nat.zero_le _⟩) ?_
          show W _ _ _ _ _ _ _ _ _ _ _ _ _ _ _ (F0 mX 48 ls [.int (nI (hlp σ i c))])
          refine lv_goto (tgt := 52) hx hb dX0_shareBy_48 (by decide) ?_
          exact jn52 _ (congrArg nI (by simp [hbit, c_37]))
  · skip
    refine lv_iload hx hb dX0_shareBy_0 (lv_at hl 5 rfl) ?_
    refine lv_iload_n hx hb dX0_shareBy_2 rfl (lv_at hl 3 rfl) ?_
    refine lv_icmp_ne (tgt := 10) hx hb dX0_shareBy_3 (by decide) (fun c_3 => ?_) (fun c_3 => ?_)
    · have c_3 := (nc_ne9 (by omega) (by omega) c_3)
      refine lv_iconst (v := (nI 0)) hx hb dX0_shareBy_10 (by decide) ?_
      exact jn11 _ (congrArg nI (by simp [c_3]))
    · have c_3 := (nc_eq9 (by omega) (by omega) c_3)
      refine lv_iconst (v := (nI 3)) hx hb dX0_shareBy_6 (by decide) ?_
      refine lv_goto (tgt := 11) hx hb dX0_shareBy_7 (by decide) ?_
      exact jn11 _ (congrArg nI (by simp [c_3]))
set_option maxHeartbeats 4000000 in
set_option maxRecDepth 100000 in
theorem c_X0_shareOf (l : Launch) (g : va_G) (cy : Nat → ClassId) (sz : Nat) (a : Nat → Nat) (σ : Nat → Nat) (b : Nat → Nat → Int32) (bd : Nat) (d : Nat) (fi : Nat) (c : Nat) (f : Nat) (hwf : WF bd σ) (hbr : BR σ b) (hd : d < σ 0) (hfi : fi < 8) (hc9 : c < 12) (hf9 : f < 8) : Met l yX0_shareOf (Cond.code yX0_shareOf cX0_shareOf 5 (some .int) :: wsL_law) ({ frames := 4, cells := 0, slots := 0, locals := 97 } : Room) (va_Pc [.ref (a 0), .int (nI d), .int (nI fi), .int (nI c), .int (nI f)] (pr g cy [(a 0, .inr (0, [.ref (a 1), .ref (a 4), .ref (a 6), .ref (a 8), .ref (a 9), .int (nI (σ 2)), .int (nI (σ 3)), .int (nI (σ 4)), .int (nI (σ 5)), .int (nI (σ 6)), .int (nI (σ 7))])), (a 1, .inr (2, [.ref (a 2), .ref (a 3), .int (nI (cmk σ))])), aI cy (a 2) 144 (wv σ), aI cy (a 3) 12 (b 1), (a 4, .inr (3, [.int (nI 6), .int (nI 11), .ref (a 5), .int (nI (σ 0))])), aI cy (a 5) 66 (b 2), (a 6, .inr (3, [.int (nI 20), .int (nI 6), .ref (a 7), .int (nI (σ 1))])), aI cy (a 7) 120 (b 3), aI cy (a 8) 8 (mS (pu σ)), aI cy (a 9) 6 (b 5)] sz)) (rd_Q (some (.int (nI (shr σ d fi c f))))) 0 0 (nF) := by
  refine mt_of (cc := cX0_shareOf) (maxL := 5) (ret := (some .int)) (by decide +kernel) (Nat.le_of_ble_eq_true rfl) ?_
  intro pX eX s mX below meth cX ls A hx hb hr hml hown hts hlk hin hsz hAe hA hP hD hK hX hl
  have hl : lv_has ls 5 [(0, .ref (a 0)), (1, .int (nI d)), (2, .int (nI fi)), (3, .int (nI c)), (4, .int (nI f))] := hl
  have hS : va_S A s.heap s.heap [] := va_S.rf
  have hn0 := hwf.n0
  have hn1 := hwf.n1
  have hh2 := hwf.h2
  refine lv_aload_n hx hb dX0_shareOf_0 rfl (lv_at hl 0 rfl) ?_
  refine lv_iload_n hx hb dX0_shareOf_1 rfl (lv_at hl 1 rfl) ?_
  refine lv_aload_n hx hb dX0_shareOf_2 rfl (lv_at hl 0 rfl) ?_
  refine lv_iload_n hx hb dX0_shareOf_3 rfl (lv_at hl 1 rfl) ?_
  refine rd_call (va_runV (As := [.int (nI d)]) (rest := [.int (nI d), .ref (a 0)]) ⟨hx, hb, hml, hown, hts⟩ (c_X0_honestFor l g cy  s.heap.size a σ b bd d hwf hbr (by omega)) ⟨(cB 1 hts wd19_16 wd1_12 wd19_13 rfl rfl (by decide +kernel) ⟨Nat.le_of_ble_eq_true rfl, Nat.le_of_ble_eq_true rfl⟩), hts _ wd19_14, hts _ wd19_15⟩ (pv hK hP hD hS hA hX [0, 1, 2, 3, 4, 5, 6, 7, 8, 9] rfl rfl 0 0 rfl rfl) rfl rfl hl.1 rfl (lv_room (Nat.le_of_ble_eq_true rfl)) dX0_shareOf_4 ⟨Nat.zero_le _, Nat.zero_le _⟩) ?_
  show W _ _ _ _ _ _ _ _ _ _ _ _ _ _ _ (F0 mX 7 ls [.int (nI (mk (hon σ d) (σ 1))), .int (nI d), .ref (a 0)])
  refine lv_iload_n hx hb dX0_shareOf_7 rfl (lv_at hl 2 rfl) ?_
  refine lv_iload_n hx hb dX0_shareOf_8 rfl (lv_at hl 3 rfl) ?_
  refine lv_iload hx hb dX0_shareOf_9 (lv_at hl 4 rfl) ?_
  refine rd_call (va_runV (As := [.int (nI d), .int (nI (mk (hon σ d) (σ 1))), .int (nI fi), .int (nI c), .int (nI f)]) (rest := []) ⟨hx, hb, hml, hown, hts⟩ (c_X0_shareBy l g cy  s.heap.size a σ b bd d (mk (hon σ d) (σ 1)) fi c f hwf hbr (by omega) rfl (by omega) (by omega) (by omega)) ⟨(cB 5 hts wd16_17 wd1_12 wd16_14 rfl rfl (by decide +kernel) ⟨Nat.le_of_ble_eq_true rfl, Nat.le_of_ble_eq_true rfl⟩), hts _ wd16_15, hts _ wd16_16⟩ (pv hK hP hD hS hA hX [0, 1, 2, 3, 4, 5, 6, 7, 8, 9] rfl rfl 0 0 rfl rfl) rfl rfl hl.1 rfl (lv_room (Nat.le_of_ble_eq_true rfl)) dX0_shareOf_11 ⟨Nat.zero_le _, Nat.zero_le _⟩) ?_
  show W _ _ _ _ _ _ _ _ _ _ _ _ _ _ _ (F0 mX 14 ls [.int (nI (shr σ d fi c f))])
  exact rd_i rfl hx hb hr dX0_shareOf_14 hlk
set_option maxHeartbeats 4000000 in
set_option maxRecDepth 100000 in
theorem c_X0_coinsOf (l : Launch) (g : va_G) (cy : Nat → ClassId) (sz : Nat) (a : Nat → Nat) (σ : Nat → Nat) (b : Nat → Nat → Int32) (bd : Nat) (f : Nat) (hwf : WF bd σ) (hbr : BR σ b) (hf9 : f < 8) : Met l yX0_coinsOf (Cond.code yX0_coinsOf cX0_coinsOf 2 (some .int) :: wsL_law) ({ frames := 0, cells := 0, slots := 0, locals := 0 } : Room) (va_Pc [.ref (a 0), .int (nI f)] (pr g cy [(a 0, .inr (0, [.ref (a 1), .ref (a 4), .ref (a 6), .ref (a 8), .ref (a 9), .int (nI (σ 2)), .int (nI (σ 3)), .int (nI (σ 4)), .int (nI (σ 5)), .int (nI (σ 6)), .int (nI (σ 7))])), (a 1, .inr (2, [.ref (a 2), .ref (a 3), .int (nI (cmk σ))])), aI cy (a 2) 144 (wv σ), aI cy (a 3) 12 (b 1), (a 4, .inr (3, [.int (nI 6), .int (nI 11), .ref (a 5), .int (nI (σ 0))])), aI cy (a 5) 66 (b 2), (a 6, .inr (3, [.int (nI 20), .int (nI 6), .ref (a 7), .int (nI (σ 1))])), aI cy (a 7) 120 (b 3), aI cy (a 8) 8 (mS (pu σ)), aI cy (a 9) 6 (b 5)] sz)) (rd_Q (some (.int (nI (σ (8 + f)))))) 0 0 (nF) := by
  refine mt_of (cc := cX0_coinsOf) (maxL := 2) (ret := (some .int)) (by decide +kernel) (Nat.le_of_ble_eq_true rfl) ?_
  intro pX eX s mX below meth cX ls A hx hb hr hml hown hts hlk hin hsz hAe hA hP hD hK hX hl
  have hl : lv_has ls 2 [(0, .ref (a 0)), (1, .int (nI f))] := hl
  have hS : va_S A s.heap s.heap [] := va_S.rf
  have hn0 := hwf.n0
  have hn1 := hwf.n1
  have hh2 := hwf.h2
  refine lv_iload_n hx hb dX0_coinsOf_0 rfl (lv_at hl 1 rfl) ?_
  refine lv_if_lt (tgt := 22) hx hb dX0_coinsOf_1 (by decide) (fun c_1 => ?_) (fun c_1 => ?_)
  · exact absurd c_1 (nI_pos (by omega))
  · skip
    refine lv_iload_n hx hb dX0_coinsOf_4 rfl (lv_at hl 1 rfl) ?_
    refine lv_aload_n hx hb dX0_coinsOf_5 rfl (lv_at hl 0 rfl) ?_
    refine va_get (D := g) (ci := 0) (v := .ref (a 8)) (C := RX0) (T := TX0) (N := 11) hx hb hts bgX0 hown hK hP 0 rfl rfl 3 (by decide) (hts _ wd2_15) (fun _ h9 => h9) rfl dX0_coinsOf_6 ?_
    refine va_alen (v := nI 8) hx hb hK hP 8 0 rfl rfl rfl dX0_coinsOf_9 ?_
    refine lv_icmp_ge (tgt := 22) hx hb dX0_coinsOf_10 (by decide) (fun c_10 => ?_) (fun c_10 => ?_)
    · have c_10 := (nc_le (by omega) (by omega) c_10)
      omega
    · have c_10 := (nc_nle (by omega) (by omega) c_10)
      refine lv_aload_n hx hb dX0_coinsOf_13 rfl (lv_at hl 0 rfl) ?_
      refine va_get (D := g) (ci := 0) (v := .ref (a 8)) (C := RX0) (T := TX0) (N := 11) hx hb hts bgX0 hown hK hP 0 rfl rfl 3 (by decide) (hts _ wd2_15) (fun _ h9 => h9) rfl dX0_coinsOf_14 ?_
      refine lv_iload_n hx hb dX0_coinsOf_17 rfl (lv_at hl 1 rfl) ?_
      refine va_iald hx hb hK hP 8 0 rfl rfl (vp_in_nI (n := f) (by omega) (by omega)) dX0_coinsOf_18 ?_
      refine ti (show (mS (pu σ)) (nI f).toNatClampNeg = nI ((pu σ) f) from by rw [nI_clamp (by omega)]; rfl) ?_
      refine ti (show (nI ((pu σ) f)) = (nI (σ (8 + f))) from rfl) ?_
      refine lv_goto (tgt := 23) hx hb dX0_coinsOf_19 (by decide) ?_
      exact rd_i rfl hx hb hr dX0_coinsOf_23 hlk
