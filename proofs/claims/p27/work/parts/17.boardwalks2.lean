set_option maxHeartbeats 4000000 in
set_option maxRecDepth 100000 in
theorem c_X0_faultOfClosing (l : Launch) (g : va_G) (cy : Nat → ClassId) (sz : Nat) (a : Nat → Nat) (σ : Nat → Nat) (b : Nat → Nat → Int32) (bd : Nat) (va : Int32) (vb : Int32) (hwf : WF bd σ) (hbr : BR σ b) : Met l yX0_faultOfClosing (Cond.code yX0_faultOfClosing cX0_faultOfClosing 3 (some .int) :: wsL_law) ({ frames := 2, cells := 0, slots := 0, locals := 42 } : Room) (va_Pc [.ref (a 0), .int va, .int vb] (pr g cy [(a 0, .inr (0, [.ref (a 1), .ref (a 4), .ref (a 6), .ref (a 8), .ref (a 9), .int (nI (σ 2)), .int (nI (σ 3)), .int (nI (σ 4)), .int (nI (σ 5)), .int (nI (σ 6)), .int (nI (σ 7))])), (a 1, .inr (2, [.ref (a 2), .ref (a 3), .int (nI (cmk σ))])), aI cy (a 2) 144 (wv σ), aI cy (a 3) 12 (b 1), (a 4, .inr (3, [.int (nI 6), .int (nI 11), .ref (a 5), .int (nI (σ 0))])), aI cy (a 5) 66 (b 2), (a 6, .inr (3, [.int (nI 20), .int (nI 6), .ref (a 7), .int (nI (σ 1))])), aI cy (a 7) 120 (b 3), aI cy (a 8) 8 (mS (pu σ)), aI cy (a 9) 6 (b 5)] sz)) (rd_Q (some (.int (nI (fClose va vb))))) 0 0 (nF) := by
  refine mt_of (cc := cX0_faultOfClosing) (maxL := 3) (ret := (some .int)) (by decide +kernel) (Nat.le_of_ble_eq_true rfl) ?_
  intro pX eX s mX below meth cX ls A hx hb hr hml hown hts hlk hin hsz hAe hA hP hD hK hX hl
  have hl : lv_has ls 3 [(0, .ref (a 0)), (1, .int va), (2, .int vb)] := hl
  have hS : va_S A s.heap s.heap [] := va_S.rf
  have hn0 := hwf.n0
  have hn1 := hwf.n1
  have hh2 := hwf.h2
  refine lv_iload_n hx hb dX0_faultOfClosing_0 rfl (lv_at hl 1 rfl) ?_
  refine rd_call (va_runSN (As := [.int va]) (rest := []) ⟨hx, hb, hml, hown, hts⟩ (c_X7_isCorner l va ) ⟨va_cnB 1 hts (bg_call wd6_12) rfl rfl rfl (nM_5 hX) (hts _ wd1_2) (by decide +kernel) ⟨Nat.le_of_ble_eq_true rfl, Nat.le_of_ble_eq_true rfl⟩, hts _ wd6_11, trivial⟩ p0 rfl rfl hl.1 rfl (lv_room (Nat.le_of_ble_eq_true rfl)) dX0_faultOfClosing_1 ⟨Nat.zero_le _, Nat.zero_le _⟩) ?_
  show W _ _ _ _ _ _ _ _ _ _ _ _ _ _ _ (F0 mX 4 ls [.int (bI (inR va (nI 0) (nI 11)))])
  refine lv_if_eq (tgt := 14) hx hb dX0_faultOfClosing_4 (by decide) (fun c_4 => ?_) (fun c_4 => ?_)
  · have c_4 := (bI_eq0.mp c_4)
    refine lv_iconst (v := (nI 1)) hx hb dX0_faultOfClosing_14 (by decide) ?_
    exact rd_i (congrArg nI (by simp [fClose, c_4])) hx hb hr dX0_faultOfClosing_15 hlk
  · have c_4 := (bI_ne0.mp c_4)
    refine lv_iload_n hx hb dX0_faultOfClosing_7 rfl (lv_at hl 2 rfl) ?_
    refine rd_call (va_runSN (As := [.int vb]) (rest := []) ⟨hx, hb, hml, hown, hts⟩ (c_X7_isCorner l vb ) ⟨va_cnB 1 hts (bg_call wd6_12) rfl rfl rfl (nM_5 hX) (hts _ wd1_2) (by decide +kernel) ⟨Nat.le_of_ble_eq_true rfl, Nat.le_of_ble_eq_true rfl⟩, hts _ wd6_11, trivial⟩ p0 rfl rfl hl.1 rfl (lv_room (Nat.le_of_ble_eq_true rfl)) dX0_faultOfClosing_8 ⟨Nat.zero_le _, Nat.zero_le _⟩) ?_
    show W _ _ _ _ _ _ _ _ _ _ _ _ _ _ _ (F0 mX 11 ls [.int (bI (inR vb (nI 0) (nI 11)))])
    refine lv_if_ne (tgt := 16) hx hb dX0_faultOfClosing_11 (by decide) (fun c_11 => ?_) (fun c_11 => ?_)
    · have c_11 := (bI_ne0.mp c_11)
      obtain ⟨a9, _, ha9, rfl⟩ := inR_ex (by decide) (by decide) c_4
      obtain ⟨b9, _, hb9, rfl⟩ := inR_ex (by decide) (by decide) c_11
      have hsb9 : sbt a9 b9 17 < 2 ^ 32 := (sbt_stp a9 (by omega) b9 (by omega)).elim (fun q => by rw [q.2]; decide) (fun q => by omega)
      refine lv_iload_n hx hb dX0_faultOfClosing_16 rfl (lv_at hl 1 rfl) ?_
      refine lv_iload_n hx hb dX0_faultOfClosing_17 rfl (lv_at hl 2 rfl) ?_
      refine rd_call (va_runS (As := [.int (nI a9), .int (nI b9)]) (rest := []) ⟨hx, hb, hml, hown, hts⟩ (c_X2_streetBetween l g cy  s.heap.size a9 b9 (by omega) (by omega)) ⟨(cB 2 hts wd17_8 wd2_7 wd17_6 rfl rfl (by decide +kernel) ⟨Nat.le_of_ble_eq_true rfl, Nat.le_of_ble_eq_true rfl⟩), hts _ wd17_7⟩ (ps hK hP hD hS hA hX [] rfl rfl) rfl rfl hl.1 rfl (lv_room (Nat.le_of_ble_eq_true rfl)) dX0_faultOfClosing_18 ⟨Nat.zero_le _, Nat.zero_le _⟩) ?_
      show W _ _ _ _ _ _ _ _ _ _ _ _ _ _ _ (F0 mX 21 ls [.int (nI (sbt a9 b9 17))])
      refine lv_iconst (v := (nI NN)) hx hb dX0_faultOfClosing_21 (by decide) ?_
      refine lv_icmp_ne (tgt := 29) hx hb dX0_faultOfClosing_22 (by decide) (fun c_22 => ?_) (fun c_22 => ?_)
      · have c_22 := (nc_ne9 (by omega) (by decide) c_22)
        refine lv_iconst (v := (nI 0)) hx hb dX0_faultOfClosing_29 (by decide) ?_
        exact rd_i (congrArg nI (by simp [fClose, c_4, c_11, c_22, nI_clamp (show a9 < 2 ^ 31 by omega), nI_clamp (show b9 < 2 ^ 31 by omega)])) hx hb hr dX0_faultOfClosing_30 hlk
      · have c_22 := (nc_eq9 (by omega) (by decide) c_22)
        refine lv_iconst (v := (nI 2)) hx hb dX0_faultOfClosing_25 (by decide) ?_
        refine lv_goto (tgt := 30) hx hb dX0_faultOfClosing_26 (by decide) ?_
        exact rd_i (congrArg nI (by simp [fClose, c_4, c_11, c_22, nI_clamp (show a9 < 2 ^ 31 by omega), nI_clamp (show b9 < 2 ^ 31 by omega)])) hx hb hr dX0_faultOfClosing_30 hlk
    · have c_11 := (bI_eq0.mp c_11)
      refine lv_iconst (v := (nI 1)) hx hb dX0_faultOfClosing_14 (by decide) ?_
      exact rd_i (congrArg nI (by simp [fClose, c_4, c_11])) hx hb hr dX0_faultOfClosing_15 hlk
set_option maxHeartbeats 4000000 in
set_option maxRecDepth 100000 in
theorem c_X0_faultOfSetting (l : Launch) (g : va_G) (cy : Nat → ClassId) (sz : Nat) (a : Nat → Nat) (σ : Nat → Nat) (b : Nat → Nat → Int32) (bd : Nat) (vw : Int32) (vv : Int32) (hwf : WF bd σ) (hbr : BR σ b) : Met l yX0_faultOfSetting (Cond.code yX0_faultOfSetting cX0_faultOfSetting 4 (some .int) :: wsL_law) ({ frames := 1, cells := 0, slots := 0, locals := 22 } : Room) (va_Pc [.ref (a 0), .int vw, .int vv] (pr g cy [(a 0, .inr (0, [.ref (a 1), .ref (a 4), .ref (a 6), .ref (a 8), .ref (a 9), .int (nI (σ 2)), .int (nI (σ 3)), .int (nI (σ 4)), .int (nI (σ 5)), .int (nI (σ 6)), .int (nI (σ 7))])), (a 1, .inr (2, [.ref (a 2), .ref (a 3), .int (nI (cmk σ))])), aI cy (a 2) 144 (wv σ), aI cy (a 3) 12 (b 1), (a 4, .inr (3, [.int (nI 6), .int (nI 11), .ref (a 5), .int (nI (σ 0))])), aI cy (a 5) 66 (b 2), (a 6, .inr (3, [.int (nI 20), .int (nI 6), .ref (a 7), .int (nI (σ 1))])), aI cy (a 7) 120 (b 3), aI cy (a 8) 8 (mS (pu σ)), aI cy (a 9) 6 (b 5)] sz)) (rd_Q (some (.int (nI (fSet vw vv))))) 0 0 (nF) := by
  refine mt_of (cc := cX0_faultOfSetting) (maxL := 4) (ret := (some .int)) (by decide +kernel) (Nat.le_of_ble_eq_true rfl) ?_
  intro pX eX s mX below meth cX ls A hx hb hr hml hown hts hlk hin hsz hAe hA hP hD hK hX hl
  have hl : lv_has ls 4 [(0, .ref (a 0)), (1, .int vw), (2, .int vv)] := hl
  have hS : va_S A s.heap s.heap [] := va_S.rf
  have hn0 := hwf.n0
  have hn1 := hwf.n1
  have hh2 := hwf.h2
  refine jn_i (pcj := 34) (ls := ls) (st := []) (fun v9 => v9 = (bI ((decide (vw = 0) && inR vv (nI 0) (nI 50)) || (decide (vw = nI 1) && inR vv (nI 0) (nI 8))))) ?_ (fun jn34 => ?_)
  · intro v9 hv9
    subst hv9
    refine lv_istore_n (lv' := [(3, .int (bI ((decide (vw = 0) && inR vv (nI 0) (nI 50)) || (decide (vw = nI 1) && inR vv (nI 0) (nI 8))))), (0, .ref (a 0)), (1, .int vw), (2, .int vv)]) hx hb dX0_faultOfSetting_34 rfl hl (by decide) rfl (fun ls hl => ?_)
    refine lv_iload_n hx hb dX0_faultOfSetting_35 rfl (lv_at hl 0 rfl) ?_
    refine lv_if_eq (tgt := 43) hx hb dX0_faultOfSetting_36 (by decide) (fun c_36 => ?_) (fun c_36 => ?_)
    · have c_36 := (bI_eq0.mp c_36)
      refine lv_iconst (v := (nI 2)) hx hb dX0_faultOfSetting_43 (by decide) ?_
      exact rd_i (congrArg nI (by unfold fSet; rw [c_36]; rfl)) hx hb hr dX0_faultOfSetting_44 hlk
    · have c_36 := (bI_ne0.mp c_36)
      refine lv_iconst (v := (nI 0)) hx hb dX0_faultOfSetting_39 (by decide) ?_
      refine lv_goto (tgt := 44) hx hb dX0_faultOfSetting_40 (by decide) ?_
      exact rd_i (congrArg nI (by unfold fSet; rw [c_36]; rfl)) hx hb hr dX0_faultOfSetting_44 hlk
  · skip
    refine lv_iload_n hx hb dX0_faultOfSetting_0 rfl (lv_at hl 1 rfl) ?_
    refine lv_if_ne (tgt := 14) hx hb dX0_faultOfSetting_1 (by decide) (fun c_1 => ?_) (fun c_1 => ?_)
    · skip
      refine lv_iload_n hx hb dX0_faultOfSetting_14 rfl (lv_at hl 1 rfl) ?_
      refine lv_iconst (v := (nI 1)) hx hb dX0_faultOfSetting_15 (by decide) ?_
      refine lv_icmp_ne (tgt := 33) hx hb dX0_faultOfSetting_16 (by decide) (fun c_16 => ?_) (fun c_16 => ?_)
      · skip
        refine lv_iconst (v := (nI 0)) hx hb dX0_faultOfSetting_33 (by decide) ?_
        exact jn34 _ (by rw [show ((decide (vw = 0) && inR vv (nI 0) (nI 50)) || (decide (vw = nI 1) && inR vv (nI 0) (nI 8))) = false from by simp [n1_0, n0_1, c_1, c_16]]; rfl)
      · skip
        refine lv_iload_n hx hb dX0_faultOfSetting_19 rfl (lv_at hl 2 rfl) ?_
        refine lv_iconst (v := (nI 0)) hx hb dX0_faultOfSetting_20 (by decide) ?_
        refine lv_bipush (v := (nI 8)) hx hb dX0_faultOfSetting_21 (by decide) ?_
        refine rd_call (va_runSN (As := [.int vv, .int (nI 0), .int (nI 8)]) (rest := []) ⟨hx, hb, hml, hown, hts⟩ (c_X7_isIn l vv (nI 0) (nI 8) ) ⟨va_cnB 3 hts (bg_call wd6_15) rfl rfl rfl (nM_6 hX) (hts _ wd1_2) (by decide +kernel) ⟨Nat.le_of_ble_eq_true rfl, Nat.le_of_ble_eq_true rfl⟩, hts _ wd6_14, trivial⟩ p0 rfl rfl hl.1 rfl (lv_room (Nat.le_of_ble_eq_true rfl)) dX0_faultOfSetting_23 ⟨Nat.zero_le _, Nat.zero_le _⟩) ?_
        show W _ _ _ _ _ _ _ _ _ _ _ _ _ _ _ (F0 mX 26 ls [.int (bI (inR vv (nI 0) (nI 8)))])
        refine lv_if_eq (tgt := 33) hx hb dX0_faultOfSetting_26 (by decide) (fun c_26 => ?_) (fun c_26 => ?_)
        · have c_26 := (bI_eq0.mp c_26)
          refine lv_iconst (v := (nI 0)) hx hb dX0_faultOfSetting_33 (by decide) ?_
          exact jn34 _ (by rw [show ((decide (vw = 0) && inR vv (nI 0) (nI 50)) || (decide (vw = nI 1) && inR vv (nI 0) (nI 8))) = false from by simp [n1_0, n0_1, c_1, c_16, c_26]]; rfl)
        · have c_26 := (bI_ne0.mp c_26)
          refine lv_iconst (v := (nI 1)) hx hb dX0_faultOfSetting_29 (by decide) ?_
          refine lv_goto (tgt := 34) hx hb dX0_faultOfSetting_30 (by decide) ?_
          exact jn34 _ (by rw [show ((decide (vw = 0) && inR vv (nI 0) (nI 50)) || (decide (vw = nI 1) && inR vv (nI 0) (nI 8))) = true from by simp [n1_0, n0_1, c_1, c_16, c_26]]; rfl)
    · skip
      refine lv_iload_n hx hb dX0_faultOfSetting_4 rfl (lv_at hl 2 rfl) ?_
      refine lv_iconst (v := (nI 0)) hx hb dX0_faultOfSetting_5 (by decide) ?_
      refine lv_bipush (v := (nI 50)) hx hb dX0_faultOfSetting_6 (by decide) ?_
      refine rd_call (va_runSN (As := [.int vv, .int (nI 0), .int (nI 50)]) (rest := []) ⟨hx, hb, hml, hown, hts⟩ (c_X7_isIn l vv (nI 0) (nI 50) ) ⟨va_cnB 3 hts (bg_call wd6_15) rfl rfl rfl (nM_6 hX) (hts _ wd1_2) (by decide +kernel) ⟨Nat.le_of_ble_eq_true rfl, Nat.le_of_ble_eq_true rfl⟩, hts _ wd6_14, trivial⟩ p0 rfl rfl hl.1 rfl (lv_room (Nat.le_of_ble_eq_true rfl)) dX0_faultOfSetting_8 ⟨Nat.zero_le _, Nat.zero_le _⟩) ?_
      show W _ _ _ _ _ _ _ _ _ _ _ _ _ _ _ (F0 mX 11 ls [.int (bI (inR vv (nI 0) (nI 50)))])
      refine lv_if_ne (tgt := 29) hx hb dX0_faultOfSetting_11 (by decide) (fun c_11 => ?_) (fun c_11 => ?_)
      · have c_11 := (bI_ne0.mp c_11)
        refine lv_iconst (v := (nI 1)) hx hb dX0_faultOfSetting_29 (by decide) ?_
        refine lv_goto (tgt := 34) hx hb dX0_faultOfSetting_30 (by decide) ?_
        exact jn34 _ (by rw [show ((decide (vw = 0) && inR vv (nI 0) (nI 50)) || (decide (vw = nI 1) && inR vv (nI 0) (nI 8))) = true from by simp [n1_0, n0_1, c_1, c_11]]; rfl)
      · have c_11 := (bI_eq0.mp c_11)
        refine lv_iload_n hx hb dX0_faultOfSetting_14 rfl (lv_at hl 1 rfl) ?_
        refine lv_iconst (v := (nI 1)) hx hb dX0_faultOfSetting_15 (by decide) ?_
        refine lv_icmp_ne (tgt := 33) hx hb dX0_faultOfSetting_16 (by decide) (fun c_16 => ?_) (fun c_16 => ?_)
        · skip
          refine lv_iconst (v := (nI 0)) hx hb dX0_faultOfSetting_33 (by decide) ?_
          exact jn34 _ (by rw [show ((decide (vw = 0) && inR vv (nI 0) (nI 50)) || (decide (vw = nI 1) && inR vv (nI 0) (nI 8))) = false from by simp [n1_0, n0_1, c_1, c_11, c_16]]; rfl)
        · skip
          exact absurd (c_1.symm.trans c_16) (by decide)
set_option maxHeartbeats 4000000 in
set_option maxRecDepth 100000 in
theorem c_X0_changeSetting (l : Launch) (g : va_G) (cy : Nat → ClassId) (sz : Nat) (a : Nat → Nat) (σ : Nat → Nat) (b : Nat → Nat → Int32) (bd : Nat) (vw : Int32) (vv : Int32) (hwf : WF bd σ) (hbr : BR σ b) : Met l yX0_changeSetting (Cond.code yX0_changeSetting cX0_changeSetting 4 (some .int) :: wsL_law) ({ frames := 2, cells := 0, slots := 0, locals := 45 } : Room) (va_Pc [.ref (a 0), .int vw, .int vv] (pr g cy [(a 0, .inr (0, [.ref (a 1), .ref (a 4), .ref (a 6), .ref (a 8), .ref (a 9), .int (nI (σ 2)), .int (nI (σ 3)), .int (nI (σ 4)), .int (nI (σ 5)), .int (nI (σ 6)), .int (nI (σ 7))])), (a 1, .inr (2, [.ref (a 2), .ref (a 3), .int (nI (cmk σ))])), aI cy (a 2) 144 (wv σ), aI cy (a 3) 12 (b 1), (a 4, .inr (3, [.int (nI 6), .int (nI 11), .ref (a 5), .int (nI (σ 0))])), aI cy (a 5) 66 (b 2), (a 6, .inr (3, [.int (nI 20), .int (nI 6), .ref (a 7), .int (nI (σ 1))])), aI cy (a 7) 120 (b 3), aI cy (a 8) 8 (mS (pu σ)), aI cy (a 9) 6 (b 5)] sz)) (wr_Q (fun b1 : Nat → Nat → Int32 => (some (.int (nI (setA σ vw vv))))) (fun b1 : Nat → Nat → Int32 => (BR (setR σ vw vv) b1)) (fun b1 : Nat → Nat → Int32 => [(a 0, .inr (0, [.ref (a 1), .ref (a 4), .ref (a 6), .ref (a 8), .ref (a 9), .int (nI ((setR σ vw vv) 2)), .int (nI ((setR σ vw vv) 3)), .int (nI ((setR σ vw vv) 4)), .int (nI ((setR σ vw vv) 5)), .int (nI ((setR σ vw vv) 6)), .int (nI ((setR σ vw vv) 7))])), (a 1, .inr (2, [.ref (a 2), .ref (a 3), .int (nI (cmk (setR σ vw vv)))])), aI cy (a 2) 144 (wv (setR σ vw vv)), aI cy (a 3) 12 (b1 1), (a 4, .inr (3, [.int (nI 6), .int (nI 11), .ref (a 5), .int (nI ((setR σ vw vv) 0))])), aI cy (a 5) 66 (b1 2), (a 6, .inr (3, [.int (nI 20), .int (nI 6), .ref (a 7), .int (nI ((setR σ vw vv) 1))])), aI cy (a 7) 120 (b1 3), aI cy (a 8) 8 (mS (pu (setR σ vw vv))), aI cy (a 9) 6 (b1 5)]) g (va_A [(a 0, .inr (0, [.ref (a 1), .ref (a 4), .ref (a 6), .ref (a 8), .ref (a 9), .int (nI (σ 2)), .int (nI (σ 3)), .int (nI (σ 4)), .int (nI (σ 5)), .int (nI (σ 6)), .int (nI (σ 7))])), (a 1, .inr (2, [.ref (a 2), .ref (a 3), .int (nI (cmk σ))])), aI cy (a 2) 144 (wv σ), aI cy (a 3) 12 (b 1), (a 4, .inr (3, [.int (nI 6), .int (nI 11), .ref (a 5), .int (nI (σ 0))])), aI cy (a 5) 66 (b 2), (a 6, .inr (3, [.int (nI 20), .int (nI 6), .ref (a 7), .int (nI (σ 1))])), aI cy (a 7) 120 (b 3), aI cy (a 8) 8 (mS (pu σ)), aI cy (a 9) 6 (b 5)] sz)) 0 0 (va_A [(a 0, .inr (0, [.ref (a 1), .ref (a 4), .ref (a 6), .ref (a 8), .ref (a 9), .int (nI (σ 2)), .int (nI (σ 3)), .int (nI (σ 4)), .int (nI (σ 5)), .int (nI (σ 6)), .int (nI (σ 7))])), (a 1, .inr (2, [.ref (a 2), .ref (a 3), .int (nI (cmk σ))])), aI cy (a 2) 144 (wv σ), aI cy (a 3) 12 (b 1), (a 4, .inr (3, [.int (nI 6), .int (nI 11), .ref (a 5), .int (nI (σ 0))])), aI cy (a 5) 66 (b 2), (a 6, .inr (3, [.int (nI 20), .int (nI 6), .ref (a 7), .int (nI (σ 1))])), aI cy (a 7) 120 (b 3), aI cy (a 8) 8 (mS (pu σ)), aI cy (a 9) 6 (b 5)] sz) := by
  refine mt_of (cc := cX0_changeSetting) (maxL := 4) (ret := (some .int)) (by decide +kernel) (Nat.le_of_ble_eq_true rfl) ?_
  intro pX eX s mX below meth cX ls A hx hb hr hml hown hts hlk hin hsz hAe hA hP hD hK hX hl
  subst hsz
  rw [← hAe]
  clear hAe
  have hl : lv_has ls 4 [(0, .ref (a 0)), (1, .int vw), (2, .int vv)] := hl
  have hS : va_S A s.heap s.heap [] := va_S.rf
  have hn0 := hwf.n0
  have hn1 := hwf.n1
  have hh2 := hwf.h2
  refine lv_aload_n hx hb dX0_changeSetting_0 rfl (lv_at hl 0 rfl) ?_
  refine lv_iload_n hx hb dX0_changeSetting_1 rfl (lv_at hl 1 rfl) ?_
  refine lv_iload_n hx hb dX0_changeSetting_2 rfl (lv_at hl 2 rfl) ?_
  refine rd_call (va_runV (As := [.int vw, .int vv]) (rest := []) ⟨hx, hb, hml, hown, hts⟩ (c_X0_faultOfSetting l g cy  s.heap.size a σ b bd vw vv hwf hbr) ⟨(cB 2 hts wd22_21 wd1_12 wd23_2 rfl rfl (by decide +kernel) ⟨Nat.le_of_ble_eq_true rfl, Nat.le_of_ble_eq_true rfl⟩), hts _ wd22_19, hts _ wd22_20⟩ (pv hK hP hD hS hA hX [0, 1, 2, 3, 4, 5, 6, 7, 8, 9] rfl rfl 0 0 rfl rfl) rfl rfl hl.1 rfl (lv_room (Nat.le_of_ble_eq_true rfl)) dX0_changeSetting_3 ⟨Nat.zero_le _, Nat.zero_le _⟩) ?_
  show W _ _ _ _ _ _ _ _ _ _ _ _ _ _ _ (F0 mX 6 ls [.int (nI (fSet vw vv))])
  have hfs : fSet vw vv < 4 := by unfold fSet; split; all_goals omega
  refine lv_if_eq (tgt := 12) hx hb dX0_changeSetting_6 (by decide) (fun c_6 => ?_) (fun c_6 => ?_)
  · have c_6 := (nz_eq c_6 (by omega))
    obtain ⟨v9, rfl, hv9, hw9⟩ := fSet_0 c_6
    have hs9 : setR σ vw (nI v9) = setS σ (decide (vw = 0)) v9 := by unfold setR; rw [if_pos c_6, nI_clamp (by omega)]
    have hsA : setA σ vw (nI v9) = if vw = 0 then σ 6 else σ 7 := by unfold setA; rw [if_pos c_6]
    refine lv_iload_n hx hb dX0_changeSetting_12 rfl (lv_at hl 1 rfl) ?_
    refine lv_if_ne (tgt := 23) hx hb dX0_changeSetting_13 (by decide) (fun c_13 => ?_) (fun c_13 => ?_)
    · skip
      refine lv_aload_n hx hb dX0_changeSetting_23 rfl (lv_at hl 0 rfl) ?_
      refine va_get (D := g) (ci := 0) (v := .int (nI (σ 7))) (C := RX0) (T := TX0) (N := 11) hx hb hts bgX0 hown hK hP 0 rfl rfl 10 (by decide) (hts _ wd4_5) (fun _ h9 => h9) rfl dX0_changeSetting_24 ?_
      refine lv_istore_n (lv' := [(3, .int (nI (σ 7))), (0, .ref (a 0)), (1, .int vw), (2, .int (nI v9))]) hx hb dX0_changeSetting_27 rfl hl (by decide) rfl (fun ls hl => ?_)
      refine lv_iload_n hx hb dX0_changeSetting_28 rfl (lv_at hl 2 rfl) ?_
      refine lv_if_ne (tgt := 40) hx hb dX0_changeSetting_29 (by decide) (fun c_29 => ?_) (fun c_29 => ?_)
      · skip
        refine lv_aload_n hx hb dX0_changeSetting_40 rfl (lv_at hl 1 rfl) ?_
        refine lv_iload_n hx hb dX0_changeSetting_41 rfl (lv_at hl 3 rfl) ?_
        refine va_put (D := g) (ci := 0) (v := .int (nI v9)) (ty := .int) (C := RX0) (T := TX0) (N := 11) hx hb hts bgX0 tyX0 tyX0_ok nmX0 hown hK hP hD hS 0 rfl rfl 10 (by decide) (hts _ wd4_5) (fun _ h9 => h9) rfl (by decide +kernel) rfl rfl (Nat.le_of_ble_eq_true rfl) dX0_changeSetting_42 (fun H locs hP hD hS => ?_)
        have hP : va_P g vwCl [(a 0, .inr (0, [.ref (a 1), .ref (a 4), .ref (a 6), .ref (a 8), .ref (a 9), .int (nI (σ 2)), .int (nI (σ 3)), .int (nI (σ 4)), .int (nI (σ 5)), .int (nI (σ 6)), .int (nI v9)])), (a 1, .inr (2, [.ref (a 2), .ref (a 3), .int (nI (cmk σ))])), aI cy (a 2) 144 (wv σ), aI cy (a 3) 12 (b 1), (a 4, .inr (3, [.int (nI 6), .int (nI 11), .ref (a 5), .int (nI (σ 0))])), aI cy (a 5) 66 (b 2), (a 6, .inr (3, [.int (nI 20), .int (nI 6), .ref (a 7), .int (nI (σ 1))])), aI cy (a 7) 120 (b 3), aI cy (a 8) 8 (mS (pu σ)), aI cy (a 9) 6 (b 5)] H := hP
        have hD : va_D A [(a 0, .inr (0, [.ref (a 1), .ref (a 4), .ref (a 6), .ref (a 8), .ref (a 9), .int (nI (σ 2)), .int (nI (σ 3)), .int (nI (σ 4)), .int (nI (σ 5)), .int (nI (σ 6)), .int (nI v9)])), (a 1, .inr (2, [.ref (a 2), .ref (a 3), .int (nI (cmk σ))])), aI cy (a 2) 144 (wv σ), aI cy (a 3) 12 (b 1), (a 4, .inr (3, [.int (nI 6), .int (nI 11), .ref (a 5), .int (nI (σ 0))])), aI cy (a 5) 66 (b 2), (a 6, .inr (3, [.int (nI 20), .int (nI 6), .ref (a 7), .int (nI (σ 1))])), aI cy (a 7) 120 (b 3), aI cy (a 8) 8 (mS (pu σ)), aI cy (a 9) 6 (b 5)] := hD
        refine lv_iload_n hx hb dX0_changeSetting_45 rfl (lv_at hl 0 rfl) ?_
        have hlo : ∀ i, 16 ≤ i → i < 40 → setS σ (decide (vw = 0)) v9 i = σ i := (fun i h1 h2 => setS_lo (by omega))
        obtain ⟨hP, hD⟩ := arr_c (wv (setS σ (decide (vw = 0)) v9)) hP hD 2 rfl (wv_cl (cmk_of hlo))
        obtain ⟨hP, hD⟩ := arr_c (mS (pu (setS σ (decide (vw = 0)) v9))) hP hD 8 rfl (pu_of ((fun i h1 h2 => setS_lo h1)))
        have e6 : setS σ (decide (vw = 0)) v9 6 = σ 6 := by simp [setS, c_13]
        have e7 : setS σ (decide (vw = 0)) v9 7 = v9 := by simp [setS, c_13]
        exact wr_i b (by rw [hsA, if_neg c_13]) (by rw [hs9]; exact BR_same hbr rfl rfl (fun i hi => setS_lo (by omega))) (by rw [hs9, cmk_of hlo, e6, e7]; exact hP) hS hx hb hr dX0_changeSetting_46 hlk
      · skip
        exact absurd c_29 c_13
    · skip
      refine lv_aload_n hx hb dX0_changeSetting_16 rfl (lv_at hl 0 rfl) ?_
      refine va_get (D := g) (ci := 0) (v := .int (nI (σ 6))) (C := RX0) (T := TX0) (N := 11) hx hb hts bgX0 hown hK hP 0 rfl rfl 9 (by decide) (hts _ wd4_4) (fun _ h9 => h9) rfl dX0_changeSetting_17 ?_
      refine lv_goto (tgt := 27) hx hb dX0_changeSetting_20 (by decide) ?_
      refine lv_istore_n (lv' := [(3, .int (nI (σ 6))), (0, .ref (a 0)), (1, .int vw), (2, .int (nI v9))]) hx hb dX0_changeSetting_27 rfl hl (by decide) rfl (fun ls hl => ?_)
      refine lv_iload_n hx hb dX0_changeSetting_28 rfl (lv_at hl 2 rfl) ?_
      refine lv_if_ne (tgt := 40) hx hb dX0_changeSetting_29 (by decide) (fun c_29 => ?_) (fun c_29 => ?_)
      · skip
        exact absurd c_13 c_29
      · skip
        refine lv_aload_n hx hb dX0_changeSetting_32 rfl (lv_at hl 1 rfl) ?_
        refine lv_iload_n hx hb dX0_changeSetting_33 rfl (lv_at hl 3 rfl) ?_
        refine va_put (D := g) (ci := 0) (v := .int (nI v9)) (ty := .int) (C := RX0) (T := TX0) (N := 11) hx hb hts bgX0 tyX0 tyX0_ok nmX0 hown hK hP hD hS 0 rfl rfl 9 (by decide) (hts _ wd4_4) (fun _ h9 => h9) rfl (by decide +kernel) rfl rfl (Nat.le_of_ble_eq_true rfl) dX0_changeSetting_34 (fun H locs hP hD hS => ?_)
        have hP : va_P g vwCl [(a 0, .inr (0, [.ref (a 1), .ref (a 4), .ref (a 6), .ref (a 8), .ref (a 9), .int (nI (σ 2)), .int (nI (σ 3)), .int (nI (σ 4)), .int (nI (σ 5)), .int (nI v9), .int (nI (σ 7))])), (a 1, .inr (2, [.ref (a 2), .ref (a 3), .int (nI (cmk σ))])), aI cy (a 2) 144 (wv σ), aI cy (a 3) 12 (b 1), (a 4, .inr (3, [.int (nI 6), .int (nI 11), .ref (a 5), .int (nI (σ 0))])), aI cy (a 5) 66 (b 2), (a 6, .inr (3, [.int (nI 20), .int (nI 6), .ref (a 7), .int (nI (σ 1))])), aI cy (a 7) 120 (b 3), aI cy (a 8) 8 (mS (pu σ)), aI cy (a 9) 6 (b 5)] H := hP
        have hD : va_D A [(a 0, .inr (0, [.ref (a 1), .ref (a 4), .ref (a 6), .ref (a 8), .ref (a 9), .int (nI (σ 2)), .int (nI (σ 3)), .int (nI (σ 4)), .int (nI (σ 5)), .int (nI v9), .int (nI (σ 7))])), (a 1, .inr (2, [.ref (a 2), .ref (a 3), .int (nI (cmk σ))])), aI cy (a 2) 144 (wv σ), aI cy (a 3) 12 (b 1), (a 4, .inr (3, [.int (nI 6), .int (nI 11), .ref (a 5), .int (nI (σ 0))])), aI cy (a 5) 66 (b 2), (a 6, .inr (3, [.int (nI 20), .int (nI 6), .ref (a 7), .int (nI (σ 1))])), aI cy (a 7) 120 (b 3), aI cy (a 8) 8 (mS (pu σ)), aI cy (a 9) 6 (b 5)] := hD
        refine lv_goto (tgt := 45) hx hb dX0_changeSetting_37 (by decide) ?_
        refine lv_iload_n hx hb dX0_changeSetting_45 rfl (lv_at hl 0 rfl) ?_
        have hlo : ∀ i, 16 ≤ i → i < 40 → setS σ (decide (vw = 0)) v9 i = σ i := (fun i h1 h2 => setS_lo (by omega))
        obtain ⟨hP, hD⟩ := arr_c (wv (setS σ (decide (vw = 0)) v9)) hP hD 2 rfl (wv_cl (cmk_of hlo))
        obtain ⟨hP, hD⟩ := arr_c (mS (pu (setS σ (decide (vw = 0)) v9))) hP hD 8 rfl (pu_of ((fun i h1 h2 => setS_lo h1)))
        have e6 : setS σ (decide (vw = 0)) v9 6 = v9 := by simp [setS, c_13]
        have e7 : setS σ (decide (vw = 0)) v9 7 = σ 7 := by simp [setS, c_13]
        exact wr_i b (by rw [hsA, if_pos c_13]) (by rw [hs9]; exact BR_same hbr rfl rfl (fun i hi => setS_lo (by omega))) (by rw [hs9, cmk_of hlo, e6, e7]; exact hP) hS hx hb hr dX0_changeSetting_46 hlk
  · have c_6 := (nz_ne c_6 (by omega))
    refine lv_bipush (v := (nI NN2)) hx hb dX0_changeSetting_9 (by decide) ?_
    exact wr_i b (by rw [show setA σ vw vv = NN2 from if_neg c_6]) (by rw [show setR σ vw vv = σ from if_neg c_6]; exact hbr) (by rw [show setR σ vw vv = σ from if_neg c_6]; exact hP) hS hx hb hr dX0_changeSetting_11 hlk
set_option maxHeartbeats 4000000 in
set_option maxRecDepth 100000 in
theorem c_X0_closeStreet (l : Launch) (g : va_G) (cy : Nat → ClassId) (sz : Nat) (a : Nat → Nat) (σ : Nat → Nat) (b : Nat → Nat → Int32) (bd : Nat) (va : Int32) (vb : Int32) (on : Bool) (hwf : WF bd σ) (hbr : BR σ b) : Met l yX0_closeStreet (Cond.code yX0_closeStreet cX0_closeStreet 4 (some .int) :: wsL_law) ({ frames := 4, cells := 0, slots := 0, locals := 93 } : Room) (va_Pc [.ref (a 0), .int va, .int vb, .int (bI on)] (pr g cy [(a 0, .inr (0, [.ref (a 1), .ref (a 4), .ref (a 6), .ref (a 8), .ref (a 9), .int (nI (σ 2)), .int (nI (σ 3)), .int (nI (σ 4)), .int (nI (σ 5)), .int (nI (σ 6)), .int (nI (σ 7))])), (a 1, .inr (2, [.ref (a 2), .ref (a 3), .int (nI (cmk σ))])), aI cy (a 2) 144 (wv σ), aI cy (a 3) 12 (b 1), (a 4, .inr (3, [.int (nI 6), .int (nI 11), .ref (a 5), .int (nI (σ 0))])), aI cy (a 5) 66 (b 2), (a 6, .inr (3, [.int (nI 20), .int (nI 6), .ref (a 7), .int (nI (σ 1))])), aI cy (a 7) 120 (b 3), aI cy (a 8) 8 (mS (pu σ)), aI cy (a 9) 6 (b 5)] sz)) (wr_Q (fun b1 : Nat → Nat → Int32 => (some (.int (nI (closeA σ va vb on))))) (fun b1 : Nat → Nat → Int32 => (BR (closeR σ va vb on) b1)) (fun b1 : Nat → Nat → Int32 => [(a 0, .inr (0, [.ref (a 1), .ref (a 4), .ref (a 6), .ref (a 8), .ref (a 9), .int (nI ((closeR σ va vb on) 2)), .int (nI ((closeR σ va vb on) 3)), .int (nI ((closeR σ va vb on) 4)), .int (nI ((closeR σ va vb on) 5)), .int (nI ((closeR σ va vb on) 6)), .int (nI ((closeR σ va vb on) 7))])), (a 1, .inr (2, [.ref (a 2), .ref (a 3), .int (nI (cmk (closeR σ va vb on)))])), aI cy (a 2) 144 (wv (closeR σ va vb on)), aI cy (a 3) 12 (b1 1), (a 4, .inr (3, [.int (nI 6), .int (nI 11), .ref (a 5), .int (nI ((closeR σ va vb on) 0))])), aI cy (a 5) 66 (b1 2), (a 6, .inr (3, [.int (nI 20), .int (nI 6), .ref (a 7), .int (nI ((closeR σ va vb on) 1))])), aI cy (a 7) 120 (b1 3), aI cy (a 8) 8 (mS (pu (closeR σ va vb on))), aI cy (a 9) 6 (b1 5)]) g (va_A [(a 0, .inr (0, [.ref (a 1), .ref (a 4), .ref (a 6), .ref (a 8), .ref (a 9), .int (nI (σ 2)), .int (nI (σ 3)), .int (nI (σ 4)), .int (nI (σ 5)), .int (nI (σ 6)), .int (nI (σ 7))])), (a 1, .inr (2, [.ref (a 2), .ref (a 3), .int (nI (cmk σ))])), aI cy (a 2) 144 (wv σ), aI cy (a 3) 12 (b 1), (a 4, .inr (3, [.int (nI 6), .int (nI 11), .ref (a 5), .int (nI (σ 0))])), aI cy (a 5) 66 (b 2), (a 6, .inr (3, [.int (nI 20), .int (nI 6), .ref (a 7), .int (nI (σ 1))])), aI cy (a 7) 120 (b 3), aI cy (a 8) 8 (mS (pu σ)), aI cy (a 9) 6 (b 5)] sz)) 0 0 (va_A [(a 0, .inr (0, [.ref (a 1), .ref (a 4), .ref (a 6), .ref (a 8), .ref (a 9), .int (nI (σ 2)), .int (nI (σ 3)), .int (nI (σ 4)), .int (nI (σ 5)), .int (nI (σ 6)), .int (nI (σ 7))])), (a 1, .inr (2, [.ref (a 2), .ref (a 3), .int (nI (cmk σ))])), aI cy (a 2) 144 (wv σ), aI cy (a 3) 12 (b 1), (a 4, .inr (3, [.int (nI 6), .int (nI 11), .ref (a 5), .int (nI (σ 0))])), aI cy (a 5) 66 (b 2), (a 6, .inr (3, [.int (nI 20), .int (nI 6), .ref (a 7), .int (nI (σ 1))])), aI cy (a 7) 120 (b 3), aI cy (a 8) 8 (mS (pu σ)), aI cy (a 9) 6 (b 5)] sz) := by
  refine mt_of (cc := cX0_closeStreet) (maxL := 4) (ret := (some .int)) (by decide +kernel) (Nat.le_of_ble_eq_true rfl) ?_
  intro pX eX s mX below meth cX ls A hx hb hr hml hown hts hlk hin hsz hAe hA hP hD hK hX hl
  subst hsz
  rw [← hAe]
  clear hAe
  have hl : lv_has ls 4 [(0, .ref (a 0)), (1, .int va), (2, .int vb), (3, .int (bI on))] := hl
  have hS : va_S A s.heap s.heap [] := va_S.rf
  have hn0 := hwf.n0
  have hn1 := hwf.n1
  have hh2 := hwf.h2
  refine lv_aload_n hx hb dX0_closeStreet_0 rfl (lv_at hl 0 rfl) ?_
  refine lv_iload_n hx hb dX0_closeStreet_1 rfl (lv_at hl 1 rfl) ?_
  refine lv_iload_n hx hb dX0_closeStreet_2 rfl (lv_at hl 2 rfl) ?_
  refine rd_call (va_runV (As := [.int va, .int vb]) (rest := []) ⟨hx, hb, hml, hown, hts⟩ (c_X0_faultOfClosing l g cy  s.heap.size a σ b bd va vb hwf hbr) ⟨(cB 2 hts wd17_5 wd1_12 wd17_2 rfl rfl (by decide +kernel) ⟨Nat.le_of_ble_eq_true rfl, Nat.le_of_ble_eq_true rfl⟩), hts _ wd17_3, hts _ wd17_4⟩ (pv hK hP hD hS hA hX [0, 1, 2, 3, 4, 5, 6, 7, 8, 9] rfl rfl 0 0 rfl rfl) rfl rfl hl.1 rfl (lv_room (Nat.le_of_ble_eq_true rfl)) dX0_closeStreet_3 ⟨Nat.zero_le _, Nat.zero_le _⟩) ?_
  show W _ _ _ _ _ _ _ _ _ _ _ _ _ _ _ (F0 mX 6 ls [.int (nI (fClose va vb))])
  have hfs : fClose va vb < 4 := by unfold fClose; split; split; all_goals omega
  refine lv_if_eq (tgt := 12) hx hb dX0_closeStreet_6 (by decide) (fun c_6 => ?_) (fun c_6 => ?_)
  · have c_6 := (nz_eq c_6 (by omega))
    obtain ⟨a9, b9, rfl, rfl, ha9, hb9, hk9⟩ := fClose_0 c_6
    obtain ⟨k9, hke⟩ : ∃ k9, k9 = sbt a9 b9 17 := ⟨_, rfl⟩
    rw [← hke] at hk9
    have hs9 : closeR σ (nI a9) (nI b9) on = clS σ k9 on := by unfold closeR; rw [if_pos c_6, nI_clamp (by omega), nI_clamp (by omega), hke]
    have hsA : ∀ _ : Unit, closeA σ (nI a9) (nI b9) on = ct (cmk (clS σ k9 on)).testBit 24 := fun _ => by unfold closeA; rw [if_pos c_6, hs9]
    replace hke : ∀ _ : Unit, k9 = sbt a9 b9 17 := fun _ => hke
    clear c_6 hfs
    have hcm9 : cmk (clS σ k9 on) < 2 ^ 17 := mk_lt _ _
    refine lv_aload_n hx hb dX0_closeStreet_12 rfl (lv_at hl 0 rfl) ?_
    refine va_get (D := g) (ci := 0) (v := .ref (a 1)) (C := RX0) (T := TX0) (N := 11) hx hb hts bgX0 hown hK hP 0 rfl rfl 0 (by decide) (hts _ wd2_8) (fun _ h9 => h9) rfl dX0_closeStreet_13 ?_
    refine lv_iload_n hx hb dX0_closeStreet_16 rfl (lv_at hl 1 rfl) ?_
    refine lv_iload_n hx hb dX0_closeStreet_17 rfl (lv_at hl 2 rfl) ?_
    refine rd_call (va_runS (As := [.int (nI a9), .int (nI b9)]) (rest := [.ref (a 1)]) ⟨hx, hb, hml, hown, hts⟩ (c_X2_streetBetween l g cy  s.heap.size a9 b9 (by omega) (by omega)) ⟨(cB 2 hts wd17_8 wd2_7 wd17_6 rfl rfl (by decide +kernel) ⟨Nat.le_of_ble_eq_true rfl, Nat.le_of_ble_eq_true rfl⟩), hts _ wd17_7⟩ (ps hK hP hD hS hA hX [] rfl rfl) rfl rfl hl.1 rfl (lv_room (Nat.le_of_ble_eq_true rfl)) dX0_closeStreet_18 ⟨Nat.zero_le _, Nat.zero_le _⟩) ?_
    show W _ _ _ _ _ _ _ _ _ _ _ _ _ _ _ (F0 mX 21 ls [.int (nI (sbt a9 b9 17)), .ref (a 1)])
    refine ti (show (nI (sbt a9 b9 17)) = (nI k9) from (congrArg nI (hke ()).symm)) ?_
    refine lv_iload_n hx hb dX0_closeStreet_21 rfl (lv_at hl 3 rfl) ?_
    refine wr_call (wc := [(a 1, .inr (2, [.ref (a 2), .ref (a 3), .int (nI (cmk σ))])), aI cy (a 2) 144 (wv σ), aI cy (a 3) 12 (b 1)]) (va_runV (As := [.int (nI k9), .int (bI on)]) (rest := []) ⟨hx, hb, hml, hown, hts⟩ (c_X2_setClosed l g cy (a 1) (a 2) (a 3) s.heap.size σ (b 1) k9 on (by omega)) ⟨(cB 2 hts wd17_12 wd2_7 wd17_9 rfl rfl (by decide +kernel) ⟨Nat.le_of_ble_eq_true rfl, Nat.le_of_ble_eq_true rfl⟩), hts _ wd17_10, hts _ wd17_11⟩ (pv hK hP hD hS hA hX [1, 2, 3] rfl rfl 2 1 rfl rfl) rfl rfl hl.1 rfl (lv_room (Nat.le_of_ble_eq_true rfl)) dX0_closeStreet_22 ⟨Nat.zero_le _, Nat.zero_le _⟩) hP hD hS hA [1, 2, 3] rfl rfl (fun _ => (rfl : ([a 1, a 2, a 3] : List Nat) = [a 1, a 2, a 3])) ?_
    rintro _u9 H locs - hP hD hS
    have hP : va_P g vwCl [(a 0, .inr (0, [.ref (a 1), .ref (a 4), .ref (a 6), .ref (a 8), .ref (a 9), .int (nI (σ 2)), .int (nI (σ 3)), .int (nI (σ 4)), .int (nI (σ 5)), .int (nI (σ 6)), .int (nI (σ 7))])), (a 1, .inr (2, [.ref (a 2), .ref (a 3), .int (nI (cmk (clS σ k9 on)))])), aI cy (a 2) 144 (wv (clS σ k9 on)), aI cy (a 3) 12 (b 1), (a 4, .inr (3, [.int (nI 6), .int (nI 11), .ref (a 5), .int (nI (σ 0))])), aI cy (a 5) 66 (b 2), (a 6, .inr (3, [.int (nI 20), .int (nI 6), .ref (a 7), .int (nI (σ 1))])), aI cy (a 7) 120 (b 3), aI cy (a 8) 8 (mS (pu σ)), aI cy (a 9) 6 (b 5)] H := hP
    have hD : va_D A [(a 0, .inr (0, [.ref (a 1), .ref (a 4), .ref (a 6), .ref (a 8), .ref (a 9), .int (nI (σ 2)), .int (nI (σ 3)), .int (nI (σ 4)), .int (nI (σ 5)), .int (nI (σ 6)), .int (nI (σ 7))])), (a 1, .inr (2, [.ref (a 2), .ref (a 3), .int (nI (cmk (clS σ k9 on)))])), aI cy (a 2) 144 (wv (clS σ k9 on)), aI cy (a 3) 12 (b 1), (a 4, .inr (3, [.int (nI 6), .int (nI 11), .ref (a 5), .int (nI (σ 0))])), aI cy (a 5) 66 (b 2), (a 6, .inr (3, [.int (nI 20), .int (nI 6), .ref (a 7), .int (nI (σ 1))])), aI cy (a 7) 120 (b 3), aI cy (a 8) 8 (mS (pu σ)), aI cy (a 9) 6 (b 5)] := hD
    show W _ _ _ _ _ _ _ _ _ _ _ _ _ _ _ (F0 mX 25 ls [])
    refine lv_aload_n hx hb dX0_closeStreet_25 rfl (lv_at hl 0 rfl) ?_
    refine va_get (D := g) (ci := 0) (v := .ref (a 1)) (C := RX0) (T := TX0) (N := 11) hx hb hts bgX0 hown hK hP 0 rfl rfl 0 (by decide) (hts _ wd2_8) (fun _ h9 => h9) rfl dX0_closeStreet_26 ?_
    refine rd_call (va_runV (As := []) (rest := []) ⟨hx, hb, hml, hown, hts⟩ (c_X2_closedStreets l g cy (a 1) (a 2) (a 3) H.size (wv (clS σ k9 on)) (b 1) (cmk (clS σ k9 on)) (by omega)) ⟨(cB 0 hts wd17_16 wd2_7 wd17_13 rfl rfl (by decide +kernel) ⟨Nat.le_of_ble_eq_true rfl, Nat.le_of_ble_eq_true rfl⟩), hts _ wd17_14, hts _ wd17_15⟩ (pv hK hP hD hS hA hX [1, 2, 3] rfl rfl 2 1 rfl rfl) rfl rfl hl.1 rfl (lv_room (Nat.le_of_ble_eq_true rfl)) dX0_closeStreet_29 ⟨Nat.zero_le _, Nat.zero_le _⟩) ?_
    show W _ _ _ _ _ _ _ _ _ _ _ _ _ _ _ (F0 mX 32 ls [.int (nI (ct (cmk (clS σ k9 on)).testBit 24))])
    obtain ⟨hP, hD⟩ := arr_c (mS (pu (clS σ k9 on))) hP hD 8 rfl (pu_of (fun i h1 h2 => clS_hi hk9 (by omega)))
    have e0 : clS σ k9 on 0 = σ 0 := clS_hi hk9 (by omega)
    have e1 : clS σ k9 on 1 = σ 1 := clS_hi hk9 (by omega)
    have e2 : clS σ k9 on 2 = σ 2 := clS_hi hk9 (by omega)
    have e3 : clS σ k9 on 3 = σ 3 := clS_hi hk9 (by omega)
    have e4 : clS σ k9 on 4 = σ 4 := clS_hi hk9 (by omega)
    have e5 : clS σ k9 on 5 = σ 5 := clS_hi hk9 (by omega)
    have e6 : clS σ k9 on 6 = σ 6 := clS_hi hk9 (by omega)
    have e7 : clS σ k9 on 7 = σ 7 := clS_hi hk9 (by omega)
    exact wr_i b (by rw [hsA ()]) (by rw [hs9]; exact BR_same hbr (clS_hi hk9 (by omega)) (clS_hi hk9 (by omega)) (fun i hi => clS_hi hk9 (by omega))) (by rw [hs9, e0, e1, e2, e3, e4, e5, e6, e7]; exact hP) hS hx hb hr dX0_closeStreet_32 hlk
  · have c_6 := (nz_ne c_6 (by omega))
    refine lv_bipush (v := (nI NN2)) hx hb dX0_closeStreet_9 (by decide) ?_
    exact wr_i b (by rw [show closeA σ va vb on = NN2 from if_neg c_6]) (by rw [show closeR σ va vb on = σ from if_neg c_6]; exact hbr) (by rw [show closeR σ va vb on = σ from if_neg c_6]; exact hP) hS hx hb hr dX0_closeStreet_11 hlk
set_option maxHeartbeats 4000000 in
set_option maxRecDepth 100000 in
theorem c_X0_numberOfBoard (l : Launch) (g : va_G) (cy : Nat → ClassId) (sz : Nat) (a : Nat → Nat) (σ : Nat → Nat) (b : Nat → Nat → Int32) (bd : Nat) (w9 : Nat) (hwf : WF bd σ) (hbr : BR σ b) (hw9 : w9 ≤ 10) : Met l yX0_numberOfBoard (Cond.code yX0_numberOfBoard cX0_numberOfBoard 2 (some .int) :: wsL_law) ({ frames := 4, cells := 0, slots := 0, locals := 98 } : Room) (va_Pc [.ref (a 0), .int (nI w9)] (pr g cy [(a 0, .inr (0, [.ref (a 1), .ref (a 4), .ref (a 6), .ref (a 8), .ref (a 9), .int (nI (σ 2)), .int (nI (σ 3)), .int (nI (σ 4)), .int (nI (σ 5)), .int (nI (σ 6)), .int (nI (σ 7))])), (a 1, .inr (2, [.ref (a 2), .ref (a 3), .int (nI (cmk σ))])), aI cy (a 2) 144 (wv σ), aI cy (a 3) 12 (b 1), (a 4, .inr (3, [.int (nI 6), .int (nI 11), .ref (a 5), .int (nI (σ 0))])), aI cy (a 5) 66 (b 2), (a 6, .inr (3, [.int (nI 20), .int (nI 6), .ref (a 7), .int (nI (σ 1))])), aI cy (a 7) 120 (b 3), aI cy (a 8) 8 (mS (pu σ)), aI cy (a 9) 6 (b 5)] sz)) (rd_Q (some (.int (nI (nbd σ w9))))) 0 0 (nF) := by
  refine mt_of (cc := cX0_numberOfBoard) (maxL := 2) (ret := (some .int)) (by decide +kernel) (Nat.le_of_ble_eq_true rfl) ?_
  intro pX eX s mX below meth cX ls A hx hb hr hml hown hts hlk hin hsz hAe hA hP hD hK hX hl
  have hl : lv_has ls 2 [(0, .ref (a 0)), (1, .int (nI w9))] := hl
  have hS : va_S A s.heap s.heap [] := va_S.rf
  have hn0 := hwf.n0
  have hn1 := hwf.n1
  have hh2 := hwf.h2
  have hcm9 : cmk σ < 2 ^ 17 := mk_lt _ _
  have hmk9 : mk (mng σ NN) (σ 1) < 2 ^ 20 := Nat.lt_of_lt_of_le (mk_lt _ _) (Nat.pow_le_pow_right (by decide) hn1)
  refine lv_iload_n hx hb dX0_numberOfBoard_0 rfl (lv_at hl 1 rfl) ?_
  rcases (show w9 = 0 ∨ w9 = 1 ∨ w9 = 2 ∨ w9 = 3 ∨ w9 = 4 ∨ w9 = 5 ∨ w9 = 6 ∨ w9 = 7 ∨ w9 = 8 ∨ w9 = 9 ∨ w9 = 10 by omega) with rfl | rfl | rfl | rfl | rfl | rfl | rfl | rfl | rfl | rfl | rfl
  · refine lv_tableIn (tgt := 60) (off := 59) hx hb dX0_numberOfBoard_1 (by decide) (by decide) (by decide) (by decide) ?_
    refine lv_aload_n hx hb dX0_numberOfBoard_60 rfl (lv_at hl 0 rfl) ?_
    refine va_get (D := g) (ci := 0) (v := .ref (a 4)) (C := RX0) (T := TX0) (N := 11) hx hb hts bgX0 hown hK hP 0 rfl rfl 1 (by decide) (hts _ wd2_12) (fun _ h9 => h9) rfl dX0_numberOfBoard_61 ?_
    refine rd_call (va_runV (As := []) (rest := []) ⟨hx, hb, hml, hown, hts⟩ (c_X3_count l g cy (a 4) (a 5) s.heap.size 6 11 66 (b 2) (σ 0) ) ⟨(cB 0 hts wd13_15 wd2_11 wd13_12 rfl rfl (by decide +kernel) ⟨Nat.le_of_ble_eq_true rfl, Nat.le_of_ble_eq_true rfl⟩), hts _ wd13_13, hts _ wd13_14⟩ (pv hK hP hD hS hA hX [4, 5] rfl rfl 3 4 rfl rfl) rfl rfl hl.1 rfl (lv_room (Nat.le_of_ble_eq_true rfl)) dX0_numberOfBoard_64 ⟨Nat.zero_le _, Nat.zero_le _⟩) ?_
    show W _ _ _ _ _ _ _ _ _ _ _ _ _ _ _ (F0 mX 67 ls [.int (nI (σ 0))])
    exact rd_i rfl hx hb hr dX0_numberOfBoard_67 hlk
  · refine lv_tableIn (tgt := 68) (off := 67) hx hb dX0_numberOfBoard_1 (by decide) (by decide) (by decide) (by decide) ?_
    refine lv_aload_n hx hb dX0_numberOfBoard_68 rfl (lv_at hl 0 rfl) ?_
    refine rd_call (va_runV (As := []) (rest := []) ⟨hx, hb, hml, hown, hts⟩ (c_X0_missingDogs l g cy  s.heap.size a σ b bd hwf hbr) ⟨(cB 0 hts wd18_16 wd1_12 wd18_13 rfl rfl (by decide +kernel) ⟨Nat.le_of_ble_eq_true rfl, Nat.le_of_ble_eq_true rfl⟩), hts _ wd18_14, hts _ wd18_15⟩ (pv hK hP hD hS hA hX [0, 1, 2, 3, 4, 5, 6, 7, 8, 9] rfl rfl 0 0 rfl rfl) rfl rfl hl.1 rfl (lv_room (Nat.le_of_ble_eq_true rfl)) dX0_numberOfBoard_69 ⟨Nat.zero_le _, Nat.zero_le _⟩) ?_
    show W _ _ _ _ _ _ _ _ _ _ _ _ _ _ _ (F0 mX 72 ls [.int (nI (ct (msg σ) (σ 0)))])
    exact rd_i rfl hx hb hr dX0_numberOfBoard_72 hlk
  · refine lv_tableIn (tgt := 73) (off := 72) hx hb dX0_numberOfBoard_1 (by decide) (by decide) (by decide) (by decide) ?_
    refine lv_aload_n hx hb dX0_numberOfBoard_73 rfl (lv_at hl 0 rfl) ?_
    refine va_get (D := g) (ci := 0) (v := .ref (a 6)) (C := RX0) (T := TX0) (N := 11) hx hb hts bgX0 hown hK hP 0 rfl rfl 2 (by decide) (hts _ wd2_13) (fun _ h9 => h9) rfl dX0_numberOfBoard_74 ?_
    refine rd_call (va_runV (As := []) (rest := []) ⟨hx, hb, hml, hown, hts⟩ (c_X3_count l g cy (a 6) (a 7) s.heap.size 20 6 120 (b 3) (σ 1) ) ⟨(cB 0 hts wd13_15 wd2_11 wd13_12 rfl rfl (by decide +kernel) ⟨Nat.le_of_ble_eq_true rfl, Nat.le_of_ble_eq_true rfl⟩), hts _ wd13_13, hts _ wd13_14⟩ (pv hK hP hD hS hA hX [6, 7] rfl rfl 3 6 rfl rfl) rfl rfl hl.1 rfl (lv_room (Nat.le_of_ble_eq_true rfl)) dX0_numberOfBoard_77 ⟨Nat.zero_le _, Nat.zero_le _⟩) ?_
    show W _ _ _ _ _ _ _ _ _ _ _ _ _ _ _ (F0 mX 80 ls [.int (nI (σ 1))])
    exact rd_i rfl hx hb hr dX0_numberOfBoard_80 hlk
  · refine lv_tableIn (tgt := 81) (off := 80) hx hb dX0_numberOfBoard_1 (by decide) (by decide) (by decide) (by decide) ?_
    refine lv_aload_n hx hb dX0_numberOfBoard_81 rfl (lv_at hl 0 rfl) ?_
    refine va_get (D := g) (ci := 0) (v := .int (nI (σ 2))) (C := RX0) (T := TX0) (N := 11) hx hb hts bgX0 hown hK hP 0 rfl rfl 5 (by decide) (hts _ wd4_0) (fun _ h9 => h9) rfl dX0_numberOfBoard_82 ?_
    exact rd_i rfl hx hb hr dX0_numberOfBoard_85 hlk
  · refine lv_tableIn (tgt := 86) (off := 85) hx hb dX0_numberOfBoard_1 (by decide) (by decide) (by decide) (by decide) ?_
    refine lv_aload_n hx hb dX0_numberOfBoard_86 rfl (lv_at hl 0 rfl) ?_
    refine va_get (D := g) (ci := 0) (v := .int (nI (σ 3))) (C := RX0) (T := TX0) (N := 11) hx hb hts bgX0 hown hK hP 0 rfl rfl 6 (by decide) (hts _ wd4_1) (fun _ h9 => h9) rfl dX0_numberOfBoard_87 ?_
    exact rd_i rfl hx hb hr dX0_numberOfBoard_90 hlk
  · refine lv_tableIn (tgt := 91) (off := 90) hx hb dX0_numberOfBoard_1 (by decide) (by decide) (by decide) (by decide) ?_
    refine lv_aload_n hx hb dX0_numberOfBoard_91 rfl (lv_at hl 0 rfl) ?_
    refine va_get (D := g) (ci := 0) (v := .int (nI (σ 4))) (C := RX0) (T := TX0) (N := 11) hx hb hts bgX0 hown hK hP 0 rfl rfl 7 (by decide) (hts _ wd4_2) (fun _ h9 => h9) rfl dX0_numberOfBoard_92 ?_
    exact rd_i rfl hx hb hr dX0_numberOfBoard_95 hlk
  · refine lv_tableIn (tgt := 96) (off := 95) hx hb dX0_numberOfBoard_1 (by decide) (by decide) (by decide) (by decide) ?_
    refine lv_aload_n hx hb dX0_numberOfBoard_96 rfl (lv_at hl 0 rfl) ?_
    refine va_get (D := g) (ci := 0) (v := .int (nI (σ 5))) (C := RX0) (T := TX0) (N := 11) hx hb hts bgX0 hown hK hP 0 rfl rfl 8 (by decide) (hts _ wd4_3) (fun _ h9 => h9) rfl dX0_numberOfBoard_97 ?_
    exact rd_i rfl hx hb hr dX0_numberOfBoard_100 hlk
  · refine lv_tableIn (tgt := 101) (off := 100) hx hb dX0_numberOfBoard_1 (by decide) (by decide) (by decide) (by decide) ?_
    refine lv_aload_n hx hb dX0_numberOfBoard_101 rfl (lv_at hl 0 rfl) ?_
    refine rd_call (va_runV (As := []) (rest := []) ⟨hx, hb, hml, hown, hts⟩ (c_X0_missingRewards l g cy  s.heap.size a σ b bd hwf hbr) ⟨(cB 0 hts wd18_20 wd1_12 wd18_17 rfl rfl (by decide +kernel) ⟨Nat.le_of_ble_eq_true rfl, Nat.le_of_ble_eq_true rfl⟩), hts _ wd18_18, hts _ wd18_19⟩ (pv hK hP hD hS hA hX [0, 1, 2, 3, 4, 5, 6, 7, 8, 9] rfl rfl 0 0 rfl rfl) rfl rfl hl.1 rfl (lv_room (Nat.le_of_ble_eq_true rfl)) dX0_numberOfBoard_102 ⟨Nat.zero_le _, Nat.zero_le _⟩) ?_
    show W _ _ _ _ _ _ _ _ _ _ _ _ _ _ _ (F0 mX 105 ls [.int (nI (sm (fun d => if msg σ d then dg σ d 4 else 0) (σ 0)))])
    exact rd_i rfl hx hb hr dX0_numberOfBoard_105 hlk
  · refine lv_tableIn (tgt := 106) (off := 105) hx hb dX0_numberOfBoard_1 (by decide) (by decide) (by decide) (by decide) ?_
    refine lv_aload_n hx hb dX0_numberOfBoard_106 rfl (lv_at hl 0 rfl) ?_
    refine rd_call (va_runV (As := []) (rest := []) ⟨hx, hb, hml, hown, hts⟩ (c_X0_fraudsInAll l g cy  s.heap.size a σ b bd hwf hbr) ⟨(cB 0 hts wd19_0 wd1_12 wd18_21 rfl rfl (by decide +kernel) ⟨Nat.le_of_ble_eq_true rfl, Nat.le_of_ble_eq_true rfl⟩), hts _ wd18_22, hts _ wd18_23⟩ (pv hK hP hD hS hA hX [0, 1, 2, 3, 4, 5, 6, 7, 8, 9] rfl rfl 0 0 rfl rfl) rfl rfl hl.1 rfl (lv_room (Nat.le_of_ble_eq_true rfl)) dX0_numberOfBoard_107 ⟨Nat.zero_le _, Nat.zero_le _⟩) ?_
    show W _ _ _ _ _ _ _ _ _ _ _ _ _ _ _ (F0 mX 110 ls [.int (nI (ct (frd σ) (σ 1)))])
    exact rd_i rfl hx hb hr dX0_numberOfBoard_110 hlk
  · refine lv_tableIn (tgt := 111) (off := 110) hx hb dX0_numberOfBoard_1 (by decide) (by decide) (by decide) (by decide) ?_
    refine lv_aload_n hx hb dX0_numberOfBoard_111 rfl (lv_at hl 0 rfl) ?_
    refine lv_iconst (v := (nI NN)) hx hb dX0_numberOfBoard_112 (by decide) ?_
    refine rd_call (va_runV (As := [.int (nI NN)]) (rest := []) ⟨hx, hb, hml, hown, hts⟩ (c_X0_sightingsMeaning l g cy  s.heap.size a σ b bd NN hwf hbr (by decide)) ⟨(cB 1 hts wd16_2 wd1_12 wd15_23 rfl rfl (by decide +kernel) ⟨Nat.le_of_ble_eq_true rfl, Nat.le_of_ble_eq_true rfl⟩), hts _ wd16_0, hts _ wd16_1⟩ (pv hK hP hD hS hA hX [0, 1, 2, 3, 4, 5, 6, 7, 8, 9] rfl rfl 0 0 rfl rfl) rfl rfl hl.1 rfl (lv_room (Nat.le_of_ble_eq_true rfl)) dX0_numberOfBoard_113 ⟨Nat.zero_le _, Nat.zero_le _⟩) ?_
    show W _ _ _ _ _ _ _ _ _ _ _ _ _ _ _ (F0 mX 116 ls [.int (nI (mk (mng σ NN) (σ 1)))])
    refine rd_call (va_runS (As := [.int (nI (mk (mng σ NN) (σ 1)))]) (rest := []) ⟨hx, hb, hml, hown, hts⟩ (c_J6_bitCount_0f7a4 l (mk (mng σ NN) (σ 1)) (by omega)) ⟨(cB 1 hts wd14_7 wd14_6 wd14_4 rfl rfl (by decide +kernel) ⟨Nat.le_of_ble_eq_true rfl, Nat.le_of_ble_eq_true rfl⟩), hts _ wd14_5⟩ p0 rfl rfl hl.1 rfl (lv_room (Nat.le_of_ble_eq_true rfl)) dX0_numberOfBoard_116 ⟨Nat.zero_le _, Nat.zero_le _⟩) ?_
    show W _ _ _ _ _ _ _ _ _ _ _ _ _ _ _ (F0 mX 119 ls [.int (nI (ct (mk (mng σ NN) (σ 1)).testBit 24))])
    refine ti (show (nI (ct (mk (mng σ NN) (σ 1)).testBit 24)) = (nI (ct (mng σ NN) (σ 1))) from (congrArg nI (ct_mk (by omega)))) ?_
    exact rd_i rfl hx hb hr dX0_numberOfBoard_119 hlk
  · refine lv_tableIn (tgt := 120) (off := 119) hx hb dX0_numberOfBoard_1 (by decide) (by decide) (by decide) (by decide) ?_
    refine lv_aload_n hx hb dX0_numberOfBoard_120 rfl (lv_at hl 0 rfl) ?_
    refine va_get (D := g) (ci := 0) (v := .ref (a 1)) (C := RX0) (T := TX0) (N := 11) hx hb hts bgX0 hown hK hP 0 rfl rfl 0 (by decide) (hts _ wd2_8) (fun _ h9 => h9) rfl dX0_numberOfBoard_121 ?_
    refine rd_call (va_runV (As := []) (rest := []) ⟨hx, hb, hml, hown, hts⟩ (c_X2_closedStreets l g cy (a 1) (a 2) (a 3) s.heap.size (wv σ) (b 1) (cmk σ) (by omega)) ⟨(cB 0 hts wd17_16 wd2_7 wd17_13 rfl rfl (by decide +kernel) ⟨Nat.le_of_ble_eq_true rfl, Nat.le_of_ble_eq_true rfl⟩), hts _ wd17_14, hts _ wd17_15⟩ (pv hK hP hD hS hA hX [1, 2, 3] rfl rfl 2 1 rfl rfl) rfl rfl hl.1 rfl (lv_room (Nat.le_of_ble_eq_true rfl)) dX0_numberOfBoard_124 ⟨Nat.zero_le _, Nat.zero_le _⟩) ?_
    show W _ _ _ _ _ _ _ _ _ _ _ _ _ _ _ (F0 mX 127 ls [.int (nI (ct (cmk σ).testBit 24))])
    exact rd_i rfl hx hb hr dX0_numberOfBoard_127 hlk
set_option maxHeartbeats 4000000 in
set_option maxRecDepth 100000 in
theorem c_X0_numberOfDog (l : Launch) (g : va_G) (cy : Nat → ClassId) (sz : Nat) (a : Nat → Nat) (σ : Nat → Nat) (b : Nat → Nat → Int32) (bd : Nat) (d : Nat) (w9 : Nat) (hwf : WF bd σ) (hbr : BR σ b) (hd : d < σ 0) (hw9 : w9 ≤ 10) : Met l yX0_numberOfDog (Cond.code yX0_numberOfDog cX0_numberOfDog 3 (some .int) :: wsL_law) ({ frames := 4, cells := 0, slots := 0, locals := 97 } : Room) (va_Pc [.ref (a 0), .int (nI d), .int (nI w9)] (pr g cy [(a 0, .inr (0, [.ref (a 1), .ref (a 4), .ref (a 6), .ref (a 8), .ref (a 9), .int (nI (σ 2)), .int (nI (σ 3)), .int (nI (σ 4)), .int (nI (σ 5)), .int (nI (σ 6)), .int (nI (σ 7))])), (a 1, .inr (2, [.ref (a 2), .ref (a 3), .int (nI (cmk σ))])), aI cy (a 2) 144 (wv σ), aI cy (a 3) 12 (b 1), (a 4, .inr (3, [.int (nI 6), .int (nI 11), .ref (a 5), .int (nI (σ 0))])), aI cy (a 5) 66 (b 2), (a 6, .inr (3, [.int (nI 20), .int (nI 6), .ref (a 7), .int (nI (σ 1))])), aI cy (a 7) 120 (b 3), aI cy (a 8) 8 (mS (pu σ)), aI cy (a 9) 6 (b 5)] sz)) (rd_Q (some (.int (nI (ndg σ d w9))))) 0 0 (nF) := by
  refine mt_of (cc := cX0_numberOfDog) (maxL := 3) (ret := (some .int)) (by decide +kernel) (Nat.le_of_ble_eq_true rfl) ?_
  intro pX eX s mX below meth cX ls A hx hb hr hml hown hts hlk hin hsz hAe hA hP hD hK hX hl
  have hl : lv_has ls 3 [(0, .ref (a 0)), (1, .int (nI d)), (2, .int (nI w9))] := hl
  have hS : va_S A s.heap s.heap [] := va_S.rf
  have hn0 := hwf.n0
  have hn1 := hwf.n1
  have hh2 := hwf.h2
  have hk20 : ∀ q, mk q (σ 1) < 2 ^ 20 := fun q => Nat.lt_of_lt_of_le (mk_lt q (σ 1)) (Nat.pow_le_pow_right (by decide) hn1)
  have hk1 := hk20 (mng σ d)
  have hk2 := hk20 (hon σ d)
  refine lv_iload_n hx hb dX0_numberOfDog_0 rfl (lv_at hl 2 rfl) ?_
  rcases (show w9 = 0 ∨ w9 = 1 ∨ w9 = 2 ∨ w9 = 3 ∨ w9 = 4 ∨ w9 = 5 ∨ w9 = 6 ∨ w9 = 7 ∨ w9 = 8 ∨ w9 = 9 ∨ w9 = 10 by omega) with rfl | rfl | rfl | rfl | rfl | rfl | rfl | rfl | rfl | rfl | rfl
  · refine lv_tableIn (tgt := 60) (off := 59) hx hb dX0_numberOfDog_1 (by decide) (by decide) (by decide) (by decide) ?_
    refine lv_aload_n hx hb dX0_numberOfDog_60 rfl (lv_at hl 0 rfl) ?_
    refine va_get (D := g) (ci := 0) (v := .ref (a 4)) (C := RX0) (T := TX0) (N := 11) hx hb hts bgX0 hown hK hP 0 rfl rfl 1 (by decide) (hts _ wd2_12) (fun _ h9 => h9) rfl dX0_numberOfDog_61 ?_
    refine lv_iload_n hx hb dX0_numberOfDog_64 rfl (lv_at hl 1 rfl) ?_
    refine lv_iconst (v := (nI 0)) hx hb dX0_numberOfDog_65 (by decide) ?_
    refine rd_call (va_runV (As := [.int (nI d), .int (nI 0)]) (rest := []) ⟨hx, hb, hml, hown, hts⟩ (c_X3_get l g cy (a 4) (a 5) s.heap.size 6 11 66 (b 2) (σ 0) (nI d) 0 (by omega) (by omega) (by omega) (by omega) (by omega) (by omega)) ⟨(cB 2 hts wd13_23 wd2_11 wd13_20 rfl rfl (by decide +kernel) ⟨Nat.le_of_ble_eq_true rfl, Nat.le_of_ble_eq_true rfl⟩), hts _ wd13_21, hts _ wd13_22⟩ (pv hK hP hD hS hA hX [4, 5] rfl rfl 3 4 rfl rfl) rfl rfl hl.1 rfl (lv_room (Nat.le_of_ble_eq_true rfl)) dX0_numberOfDog_66 ⟨Nat.zero_le _, Nat.zero_le _⟩) ?_
    refine ti (show getR (b 2) 11 (σ 0) (nI d) 0 = (nI (dg σ d 0)) from (hbr.gd hn0 (by omega) (by decide))) ?_
    exact rd_i rfl hx hb hr dX0_numberOfDog_69 hlk
  · refine lv_tableIn (tgt := 70) (off := 69) hx hb dX0_numberOfDog_1 (by decide) (by decide) (by decide) (by decide) ?_
    refine lv_aload_n hx hb dX0_numberOfDog_70 rfl (lv_at hl 0 rfl) ?_
    refine va_get (D := g) (ci := 0) (v := .ref (a 4)) (C := RX0) (T := TX0) (N := 11) hx hb hts bgX0 hown hK hP 0 rfl rfl 1 (by decide) (hts _ wd2_12) (fun _ h9 => h9) rfl dX0_numberOfDog_71 ?_
    refine lv_iload_n hx hb dX0_numberOfDog_74 rfl (lv_at hl 1 rfl) ?_
    refine lv_iconst (v := (nI 1)) hx hb dX0_numberOfDog_75 (by decide) ?_
    refine rd_call (va_runV (As := [.int (nI d), .int (nI 1)]) (rest := []) ⟨hx, hb, hml, hown, hts⟩ (c_X3_get l g cy (a 4) (a 5) s.heap.size 6 11 66 (b 2) (σ 0) (nI d) 1 (by omega) (by omega) (by omega) (by omega) (by omega) (by omega)) ⟨(cB 2 hts wd13_23 wd2_11 wd13_20 rfl rfl (by decide +kernel) ⟨Nat.le_of_ble_eq_true rfl, Nat.le_of_ble_eq_true rfl⟩), hts _ wd13_21, hts _ wd13_22⟩ (pv hK hP hD hS hA hX [4, 5] rfl rfl 3 4 rfl rfl) rfl rfl hl.1 rfl (lv_room (Nat.le_of_ble_eq_true rfl)) dX0_numberOfDog_76 ⟨Nat.zero_le _, Nat.zero_le _⟩) ?_
    refine ti (show getR (b 2) 11 (σ 0) (nI d) 1 = (nI (dg σ d 1)) from (hbr.gd hn0 (by omega) (by decide))) ?_
    exact rd_i rfl hx hb hr dX0_numberOfDog_79 hlk
  · refine lv_tableIn (tgt := 80) (off := 79) hx hb dX0_numberOfDog_1 (by decide) (by decide) (by decide) (by decide) ?_
    refine lv_aload_n hx hb dX0_numberOfDog_80 rfl (lv_at hl 0 rfl) ?_
    refine va_get (D := g) (ci := 0) (v := .ref (a 4)) (C := RX0) (T := TX0) (N := 11) hx hb hts bgX0 hown hK hP 0 rfl rfl 1 (by decide) (hts _ wd2_12) (fun _ h9 => h9) rfl dX0_numberOfDog_81 ?_
    refine lv_iload_n hx hb dX0_numberOfDog_84 rfl (lv_at hl 1 rfl) ?_
    refine lv_iconst (v := (nI 2)) hx hb dX0_numberOfDog_85 (by decide) ?_
    refine rd_call (va_runV (As := [.int (nI d), .int (nI 2)]) (rest := []) ⟨hx, hb, hml, hown, hts⟩ (c_X3_get l g cy (a 4) (a 5) s.heap.size 6 11 66 (b 2) (σ 0) (nI d) 2 (by omega) (by omega) (by omega) (by omega) (by omega) (by omega)) ⟨(cB 2 hts wd13_23 wd2_11 wd13_20 rfl rfl (by decide +kernel) ⟨Nat.le_of_ble_eq_true rfl, Nat.le_of_ble_eq_true rfl⟩), hts _ wd13_21, hts _ wd13_22⟩ (pv hK hP hD hS hA hX [4, 5] rfl rfl 3 4 rfl rfl) rfl rfl hl.1 rfl (lv_room (Nat.le_of_ble_eq_true rfl)) dX0_numberOfDog_86 ⟨Nat.zero_le _, Nat.zero_le _⟩) ?_
    refine ti (show getR (b 2) 11 (σ 0) (nI d) 2 = (nI (dg σ d 2)) from (hbr.gd hn0 (by omega) (by decide))) ?_
    exact rd_i rfl hx hb hr dX0_numberOfDog_89 hlk
  · refine lv_tableIn (tgt := 90) (off := 89) hx hb dX0_numberOfDog_1 (by decide) (by decide) (by decide) (by decide) ?_
    refine lv_aload_n hx hb dX0_numberOfDog_90 rfl (lv_at hl 0 rfl) ?_
    refine va_get (D := g) (ci := 0) (v := .ref (a 4)) (C := RX0) (T := TX0) (N := 11) hx hb hts bgX0 hown hK hP 0 rfl rfl 1 (by decide) (hts _ wd2_12) (fun _ h9 => h9) rfl dX0_numberOfDog_91 ?_
    refine lv_iload_n hx hb dX0_numberOfDog_94 rfl (lv_at hl 1 rfl) ?_
    refine lv_iconst (v := (nI 3)) hx hb dX0_numberOfDog_95 (by decide) ?_
    refine rd_call (va_runV (As := [.int (nI d), .int (nI 3)]) (rest := []) ⟨hx, hb, hml, hown, hts⟩ (c_X3_get l g cy (a 4) (a 5) s.heap.size 6 11 66 (b 2) (σ 0) (nI d) 3 (by omega) (by omega) (by omega) (by omega) (by omega) (by omega)) ⟨(cB 2 hts wd13_23 wd2_11 wd13_20 rfl rfl (by decide +kernel) ⟨Nat.le_of_ble_eq_true rfl, Nat.le_of_ble_eq_true rfl⟩), hts _ wd13_21, hts _ wd13_22⟩ (pv hK hP hD hS hA hX [4, 5] rfl rfl 3 4 rfl rfl) rfl rfl hl.1 rfl (lv_room (Nat.le_of_ble_eq_true rfl)) dX0_numberOfDog_96 ⟨Nat.zero_le _, Nat.zero_le _⟩) ?_
    refine ti (show getR (b 2) 11 (σ 0) (nI d) 3 = (nI (dg σ d 3)) from (hbr.gd hn0 (by omega) (by decide))) ?_
    exact rd_i rfl hx hb hr dX0_numberOfDog_99 hlk
  · refine lv_tableIn (tgt := 100) (off := 99) hx hb dX0_numberOfDog_1 (by decide) (by decide) (by decide) (by decide) ?_
    refine lv_aload_n hx hb dX0_numberOfDog_100 rfl (lv_at hl 0 rfl) ?_
    refine va_get (D := g) (ci := 0) (v := .ref (a 4)) (C := RX0) (T := TX0) (N := 11) hx hb hts bgX0 hown hK hP 0 rfl rfl 1 (by decide) (hts _ wd2_12) (fun _ h9 => h9) rfl dX0_numberOfDog_101 ?_
    refine lv_iload_n hx hb dX0_numberOfDog_104 rfl (lv_at hl 1 rfl) ?_
    refine lv_iconst (v := (nI 4)) hx hb dX0_numberOfDog_105 (by decide) ?_
    refine rd_call (va_runV (As := [.int (nI d), .int (nI 4)]) (rest := []) ⟨hx, hb, hml, hown, hts⟩ (c_X3_get l g cy (a 4) (a 5) s.heap.size 6 11 66 (b 2) (σ 0) (nI d) 4 (by omega) (by omega) (by omega) (by omega) (by omega) (by omega)) ⟨(cB 2 hts wd13_23 wd2_11 wd13_20 rfl rfl (by decide +kernel) ⟨Nat.le_of_ble_eq_true rfl, Nat.le_of_ble_eq_true rfl⟩), hts _ wd13_21, hts _ wd13_22⟩ (pv hK hP hD hS hA hX [4, 5] rfl rfl 3 4 rfl rfl) rfl rfl hl.1 rfl (lv_room (Nat.le_of_ble_eq_true rfl)) dX0_numberOfDog_106 ⟨Nat.zero_le _, Nat.zero_le _⟩) ?_
    refine ti (show getR (b 2) 11 (σ 0) (nI d) 4 = (nI (dg σ d 4)) from (hbr.gd hn0 (by omega) (by decide))) ?_
    exact rd_i rfl hx hb hr dX0_numberOfDog_109 hlk
  · refine lv_tableIn (tgt := 110) (off := 109) hx hb dX0_numberOfDog_1 (by decide) (by decide) (by decide) (by decide) ?_
    refine lv_aload_n hx hb dX0_numberOfDog_110 rfl (lv_at hl 0 rfl) ?_
    refine va_get (D := g) (ci := 0) (v := .ref (a 4)) (C := RX0) (T := TX0) (N := 11) hx hb hts bgX0 hown hK hP 0 rfl rfl 1 (by decide) (hts _ wd2_12) (fun _ h9 => h9) rfl dX0_numberOfDog_111 ?_
    refine lv_iload_n hx hb dX0_numberOfDog_114 rfl (lv_at hl 1 rfl) ?_
    refine lv_iconst (v := (nI 5)) hx hb dX0_numberOfDog_115 (by decide) ?_
    refine rd_call (va_runV (As := [.int (nI d), .int (nI 5)]) (rest := []) ⟨hx, hb, hml, hown, hts⟩ (c_X3_get l g cy (a 4) (a 5) s.heap.size 6 11 66 (b 2) (σ 0) (nI d) 5 (by omega) (by omega) (by omega) (by omega) (by omega) (by omega)) ⟨(cB 2 hts wd13_23 wd2_11 wd13_20 rfl rfl (by decide +kernel) ⟨Nat.le_of_ble_eq_true rfl, Nat.le_of_ble_eq_true rfl⟩), hts _ wd13_21, hts _ wd13_22⟩ (pv hK hP hD hS hA hX [4, 5] rfl rfl 3 4 rfl rfl) rfl rfl hl.1 rfl (lv_room (Nat.le_of_ble_eq_true rfl)) dX0_numberOfDog_116 ⟨Nat.zero_le _, Nat.zero_le _⟩) ?_
    refine ti (show getR (b 2) 11 (σ 0) (nI d) 5 = (bI (msg σ d)) from (hbr.gm hn0 (by omega))) ?_
    refine ti (show (bI (msg σ d)) = (nI (if msg σ d then 1 else 0)) from (bI_n _)) ?_
    exact rd_i rfl hx hb hr dX0_numberOfDog_119 hlk
  · refine lv_tableIn (tgt := 120) (off := 119) hx hb dX0_numberOfDog_1 (by decide) (by decide) (by decide) (by decide) ?_
    refine lv_aload_n hx hb dX0_numberOfDog_120 rfl (lv_at hl 0 rfl) ?_
    refine lv_iload_n hx hb dX0_numberOfDog_121 rfl (lv_at hl 1 rfl) ?_
    refine rd_call (va_runV (As := [.int (nI d)]) (rest := []) ⟨hx, hb, hml, hown, hts⟩ (c_X0_sightingsMeaning l g cy  s.heap.size a σ b bd d hwf hbr (by omega)) ⟨(cB 1 hts wd16_2 wd1_12 wd15_23 rfl rfl (by decide +kernel) ⟨Nat.le_of_ble_eq_true rfl, Nat.le_of_ble_eq_true rfl⟩), hts _ wd16_0, hts _ wd16_1⟩ (pv hK hP hD hS hA hX [0, 1, 2, 3, 4, 5, 6, 7, 8, 9] rfl rfl 0 0 rfl rfl) rfl rfl hl.1 rfl (lv_room (Nat.le_of_ble_eq_true rfl)) dX0_numberOfDog_122 ⟨Nat.zero_le _, Nat.zero_le _⟩) ?_
    show W _ _ _ _ _ _ _ _ _ _ _ _ _ _ _ (F0 mX 125 ls [.int (nI (mk (mng σ d) (σ 1)))])
    refine rd_call (va_runS (As := [.int (nI (mk (mng σ d) (σ 1)))]) (rest := []) ⟨hx, hb, hml, hown, hts⟩ (c_J6_bitCount_0f7a4 l (mk (mng σ d) (σ 1)) (by omega)) ⟨(cB 1 hts wd14_7 wd14_6 wd14_4 rfl rfl (by decide +kernel) ⟨Nat.le_of_ble_eq_true rfl, Nat.le_of_ble_eq_true rfl⟩), hts _ wd14_5⟩ p0 rfl rfl hl.1 rfl (lv_room (Nat.le_of_ble_eq_true rfl)) dX0_numberOfDog_125 ⟨Nat.zero_le _, Nat.zero_le _⟩) ?_
    show W _ _ _ _ _ _ _ _ _ _ _ _ _ _ _ (F0 mX 128 ls [.int (nI (ct (mk (mng σ d) (σ 1)).testBit 24))])
    refine ti (show (nI (ct (mk (mng σ d) (σ 1)).testBit 24)) = (nI (ct (mng σ d) (σ 1))) from (congrArg nI (ct_mk (by omega)))) ?_
    exact rd_i rfl hx hb hr dX0_numberOfDog_128 hlk
  · refine lv_tableIn (tgt := 129) (off := 128) hx hb dX0_numberOfDog_1 (by decide) (by decide) (by decide) (by decide) ?_
    refine lv_aload_n hx hb dX0_numberOfDog_129 rfl (lv_at hl 0 rfl) ?_
    refine lv_iload_n hx hb dX0_numberOfDog_130 rfl (lv_at hl 1 rfl) ?_
    refine rd_call (va_runV (As := [.int (nI d)]) (rest := []) ⟨hx, hb, hml, hown, hts⟩ (c_X0_honestFor l g cy  s.heap.size a σ b bd d hwf hbr (by omega)) ⟨(cB 1 hts wd19_16 wd1_12 wd19_13 rfl rfl (by decide +kernel) ⟨Nat.le_of_ble_eq_true rfl, Nat.le_of_ble_eq_true rfl⟩), hts _ wd19_14, hts _ wd19_15⟩ (pv hK hP hD hS hA hX [0, 1, 2, 3, 4, 5, 6, 7, 8, 9] rfl rfl 0 0 rfl rfl) rfl rfl hl.1 rfl (lv_room (Nat.le_of_ble_eq_true rfl)) dX0_numberOfDog_131 ⟨Nat.zero_le _, Nat.zero_le _⟩) ?_
    show W _ _ _ _ _ _ _ _ _ _ _ _ _ _ _ (F0 mX 134 ls [.int (nI (mk (hon σ d) (σ 1)))])
    refine rd_call (va_runS (As := [.int (nI (mk (hon σ d) (σ 1)))]) (rest := []) ⟨hx, hb, hml, hown, hts⟩ (c_J6_bitCount_0f7a4 l (mk (hon σ d) (σ 1)) (by omega)) ⟨(cB 1 hts wd14_7 wd14_6 wd14_4 rfl rfl (by decide +kernel) ⟨Nat.le_of_ble_eq_true rfl, Nat.le_of_ble_eq_true rfl⟩), hts _ wd14_5⟩ p0 rfl rfl hl.1 rfl (lv_room (Nat.le_of_ble_eq_true rfl)) dX0_numberOfDog_134 ⟨Nat.zero_le _, Nat.zero_le _⟩) ?_
    show W _ _ _ _ _ _ _ _ _ _ _ _ _ _ _ (F0 mX 137 ls [.int (nI (ct (mk (hon σ d) (σ 1)).testBit 24))])
    refine ti (show (nI (ct (mk (hon σ d) (σ 1)).testBit 24)) = (nI (ct (hon σ d) (σ 1))) from (congrArg nI (ct_mk (by omega)))) ?_
    exact rd_i rfl hx hb hr dX0_numberOfDog_137 hlk
  · refine lv_tableIn (tgt := 138) (off := 137) hx hb dX0_numberOfDog_1 (by decide) (by decide) (by decide) (by decide) ?_
    refine lv_aload_n hx hb dX0_numberOfDog_138 rfl (lv_at hl 0 rfl) ?_
    refine va_get (D := g) (ci := 0) (v := .ref (a 4)) (C := RX0) (T := TX0) (N := 11) hx hb hts bgX0 hown hK hP 0 rfl rfl 1 (by decide) (hts _ wd2_12) (fun _ h9 => h9) rfl dX0_numberOfDog_139 ?_
    refine lv_iload_n hx hb dX0_numberOfDog_142 rfl (lv_at hl 1 rfl) ?_
    refine lv_bipush (v := (nI 6)) hx hb dX0_numberOfDog_143 (by decide) ?_
    refine rd_call (va_runV (As := [.int (nI d), .int (nI 6)]) (rest := []) ⟨hx, hb, hml, hown, hts⟩ (c_X3_get l g cy (a 4) (a 5) s.heap.size 6 11 66 (b 2) (σ 0) (nI d) 6 (by omega) (by omega) (by omega) (by omega) (by omega) (by omega)) ⟨(cB 2 hts wd13_23 wd2_11 wd13_20 rfl rfl (by decide +kernel) ⟨Nat.le_of_ble_eq_true rfl, Nat.le_of_ble_eq_true rfl⟩), hts _ wd13_21, hts _ wd13_22⟩ (pv hK hP hD hS hA hX [4, 5] rfl rfl 3 4 rfl rfl) rfl rfl hl.1 rfl (lv_room (Nat.le_of_ble_eq_true rfl)) dX0_numberOfDog_145 ⟨Nat.zero_le _, Nat.zero_le _⟩) ?_
    refine ti (show getR (b 2) 11 (σ 0) (nI d) 6 = (nI (dg σ d 5)) from (hbr.gf (k := 0) hn0 (by omega) (by decide))) ?_
    exact rd_i rfl hx hb hr dX0_numberOfDog_148 hlk
  · refine lv_tableIn (tgt := 149) (off := 148) hx hb dX0_numberOfDog_1 (by decide) (by decide) (by decide) (by decide) ?_
    refine lv_aload_n hx hb dX0_numberOfDog_149 rfl (lv_at hl 0 rfl) ?_
    refine va_get (D := g) (ci := 0) (v := .ref (a 4)) (C := RX0) (T := TX0) (N := 11) hx hb hts bgX0 hown hK hP 0 rfl rfl 1 (by decide) (hts _ wd2_12) (fun _ h9 => h9) rfl dX0_numberOfDog_150 ?_
    refine lv_iload_n hx hb dX0_numberOfDog_153 rfl (lv_at hl 1 rfl) ?_
    refine lv_bipush (v := (nI 7)) hx hb dX0_numberOfDog_154 (by decide) ?_
    refine rd_call (va_runV (As := [.int (nI d), .int (nI 7)]) (rest := []) ⟨hx, hb, hml, hown, hts⟩ (c_X3_get l g cy (a 4) (a 5) s.heap.size 6 11 66 (b 2) (σ 0) (nI d) 7 (by omega) (by omega) (by omega) (by omega) (by omega) (by omega)) ⟨(cB 2 hts wd13_23 wd2_11 wd13_20 rfl rfl (by decide +kernel) ⟨Nat.le_of_ble_eq_true rfl, Nat.le_of_ble_eq_true rfl⟩), hts _ wd13_21, hts _ wd13_22⟩ (pv hK hP hD hS hA hX [4, 5] rfl rfl 3 4 rfl rfl) rfl rfl hl.1 rfl (lv_room (Nat.le_of_ble_eq_true rfl)) dX0_numberOfDog_156 ⟨Nat.zero_le _, Nat.zero_le _⟩) ?_
    refine ti (show getR (b 2) 11 (σ 0) (nI d) 7 = (nI (dg σ d 6)) from (hbr.gf (k := 1) hn0 (by omega) (by decide))) ?_
    exact rd_i rfl hx hb hr dX0_numberOfDog_159 hlk
  · refine lv_tableIn (tgt := 160) (off := 159) hx hb dX0_numberOfDog_1 (by decide) (by decide) (by decide) (by decide) ?_
    refine lv_aload_n hx hb dX0_numberOfDog_160 rfl (lv_at hl 0 rfl) ?_
    refine va_get (D := g) (ci := 0) (v := .ref (a 4)) (C := RX0) (T := TX0) (N := 11) hx hb hts bgX0 hown hK hP 0 rfl rfl 1 (by decide) (hts _ wd2_12) (fun _ h9 => h9) rfl dX0_numberOfDog_161 ?_
    refine lv_iload_n hx hb dX0_numberOfDog_164 rfl (lv_at hl 1 rfl) ?_
    refine lv_bipush (v := (nI 8)) hx hb dX0_numberOfDog_165 (by decide) ?_
    refine rd_call (va_runV (As := [.int (nI d), .int (nI 8)]) (rest := []) ⟨hx, hb, hml, hown, hts⟩ (c_X3_get l g cy (a 4) (a 5) s.heap.size 6 11 66 (b 2) (σ 0) (nI d) 8 (by omega) (by omega) (by omega) (by omega) (by omega) (by omega)) ⟨(cB 2 hts wd13_23 wd2_11 wd13_20 rfl rfl (by decide +kernel) ⟨Nat.le_of_ble_eq_true rfl, Nat.le_of_ble_eq_true rfl⟩), hts _ wd13_21, hts _ wd13_22⟩ (pv hK hP hD hS hA hX [4, 5] rfl rfl 3 4 rfl rfl) rfl rfl hl.1 rfl (lv_room (Nat.le_of_ble_eq_true rfl)) dX0_numberOfDog_167 ⟨Nat.zero_le _, Nat.zero_le _⟩) ?_
    refine ti (show getR (b 2) 11 (σ 0) (nI d) 8 = (nI (dg σ d 7)) from (hbr.gf (k := 2) hn0 (by omega) (by decide))) ?_
    exact rd_i rfl hx hb hr dX0_numberOfDog_170 hlk
