set_option maxHeartbeats 4000000 in
set_option maxRecDepth 100000 in
theorem c_X8_in (l : Launch) (v : Int64) (lo : Int64) (hi : Int64) : Met l yX8_in (Cond.code yX8_in cX8_in 6 (some .boolean) :: wsL_law) ({ frames := 0, cells := 0, slots := 0, locals := 0 } : Room) (va_Pc [.long v, .long lo, .long hi] (fun _ => True)) (rd_Q (some (.int (bI (inL v lo hi))))) 0 0 (nF) := by
  refine mt_0 (cc := cX8_in) (maxL := 6) (ret := (some .boolean)) (by decide +kernel) (Nat.le_of_ble_eq_true rfl) ?_
  intro pX eX s mX below meth cX ls hx hb hr hml hown hts hlk hl
  have hl : lv_has ls 6 [(0, .long v), (2, .long lo), (4, .long hi)] := hl
  refine lv_lload_n hx hb dX8_in_0 rfl (lv_at hl 0 rfl) ?_
  refine lv_lload_n hx hb dX8_in_1 rfl (lv_at hl 1 rfl) ?_
  refine W.lcmp hx hb dX8_in_2 ?_
  refine lv_if_lt (tgt := 17) hx hb dX8_in_3 (by decide) (fun c_3 => ?_) (fun c_3 => ?_)
  · have c_3 := lc_lt c_3
    refine lv_iconst (v := (nI 0)) hx hb dX8_in_17 (by decide) ?_
    exact rd_z (by simp [inL, bI, nI_0, nI_o, *]) hx hb hr dX8_in_18 hlk
  · have c_3 := lc_nlt c_3
    refine lv_lload_n hx hb dX8_in_6 rfl (lv_at hl 0 rfl) ?_
    refine lv_lload hx hb dX8_in_7 (lv_at hl 2 rfl) ?_
    refine W.lcmp hx hb dX8_in_9 ?_
    refine lv_if_gt (tgt := 17) hx hb dX8_in_10 (by decide) (fun c_10 => ?_) (fun c_10 => ?_)
    · have c_10 := lc_gt c_10
      refine lv_iconst (v := (nI 0)) hx hb dX8_in_17 (by decide) ?_
      exact rd_z (by simp [inL, bI, nI_0, nI_o, *]) hx hb hr dX8_in_18 hlk
    · have c_10 := lc_ngt c_10
      refine lv_iconst (v := (nI 1)) hx hb dX8_in_13 (by decide) ?_
      refine lv_goto (tgt := 18) hx hb dX8_in_14 (by decide) ?_
      exact rd_z (by simp [inL, bI, nI_0, nI_o, *]) hx hb hr dX8_in_18 hlk
set_option maxHeartbeats 4000000 in
set_option maxRecDepth 100000 in
theorem c_X8_isCorner (l : Launch) (v : Int32) : Met l yX8_isCorner (Cond.code yX8_isCorner cX8_isCorner 1 (some .boolean) :: wsL_law) ({ frames := 1, cells := 0, slots := 0, locals := 25 } : Room) (va_Pc [.int v] (fun _ => True)) (rd_Q (some (.int (bI (inR v (nI 0) (nI 11)))))) 0 0 (nF) := by
  refine mt_0 (cc := cX8_isCorner) (maxL := 1) (ret := (some .boolean)) (by decide +kernel) (Nat.le_of_ble_eq_true rfl) ?_
  intro pX eX s mX below meth cX ls hx hb hr hml hown hts hlk hl
  have hl : lv_has ls 1 [(0, .int v)] := hl
  refine lv_iload_n hx hb dX8_isCorner_0 rfl (lv_at hl 0 rfl) ?_
  refine lv_i2l (v := v.toInt64) hx hb dX8_isCorner_1 rfl ?_
  refine lv_lconst (v := 0) hx hb dX8_isCorner_2 rfl ?_
  refine lv_ldc2 hx hb hown (hts _ wd28_16) dX8_isCorner_3 ?_
  refine rd_call (va_runS (As := [.long v.toInt64, .long (0 : Int64), .long (11 : Int64)]) (rest := []) ⟨hx, hb, hml, hown, hts⟩ (c_X8_in l v.toInt64 (0 : Int64) (11 : Int64) ) ⟨(cB 3 hts wd7_17 wd1_5 wd7_15 rfl rfl (by decide +kernel) ⟨Nat.le_of_ble_eq_true rfl, Nat.le_of_ble_eq_true rfl⟩), hts _ wd7_16⟩ p0 rfl rfl hl.1 rfl (lv_room (Nat.le_of_ble_eq_true rfl)) dX8_isCorner_6 ⟨Nat.zero_le _, Nat.zero_le _⟩) ?_
  show W _ _ _ _ _ _ _ _ _ _ _ _ _ _ _ (F0 mX 9 ls [.int (bI (inL v.toInt64 (0 : Int64) (11 : Int64)))])
  refine ti (show (bI (inL v.toInt64 (0 : Int64) (11 : Int64))) = (bI (inR v (nI 0) (nI 11))) from (congrArg bI (inL_c (a := 0) (b := 11) (by decide) (by decide)))) ?_
  exact rd_z rfl hx hb hr dX8_isCorner_9 hlk
set_option maxHeartbeats 4000000 in
set_option maxRecDepth 100000 in
theorem c_X8_isFinder (l : Launch) (v : Int32) : Met l yX8_isFinder (Cond.code yX8_isFinder cX8_isFinder 1 (some .boolean) :: wsL_law) ({ frames := 1, cells := 0, slots := 0, locals := 25 } : Room) (va_Pc [.int v] (fun _ => True)) (rd_Q (some (.int (bI (inR v (nI 0) (nI 7)))))) 0 0 (nF) := by
  refine mt_0 (cc := cX8_isFinder) (maxL := 1) (ret := (some .boolean)) (by decide +kernel) (Nat.le_of_ble_eq_true rfl) ?_
  intro pX eX s mX below meth cX ls hx hb hr hml hown hts hlk hl
  have hl : lv_has ls 1 [(0, .int v)] := hl
  refine lv_iload_n hx hb dX8_isFinder_0 rfl (lv_at hl 0 rfl) ?_
  refine lv_i2l (v := v.toInt64) hx hb dX8_isFinder_1 rfl ?_
  refine lv_lconst (v := 0) hx hb dX8_isFinder_2 rfl ?_
  refine lv_ldc2 hx hb hown (hts _ wd27_4) dX8_isFinder_3 ?_
  refine rd_call (va_runS (As := [.long v.toInt64, .long (0 : Int64), .long (7 : Int64)]) (rest := []) ⟨hx, hb, hml, hown, hts⟩ (c_X8_in l v.toInt64 (0 : Int64) (7 : Int64) ) ⟨(cB 3 hts wd7_17 wd1_5 wd7_15 rfl rfl (by decide +kernel) ⟨Nat.le_of_ble_eq_true rfl, Nat.le_of_ble_eq_true rfl⟩), hts _ wd7_16⟩ p0 rfl rfl hl.1 rfl (lv_room (Nat.le_of_ble_eq_true rfl)) dX8_isFinder_6 ⟨Nat.zero_le _, Nat.zero_le _⟩) ?_
  show W _ _ _ _ _ _ _ _ _ _ _ _ _ _ _ (F0 mX 9 ls [.int (bI (inL v.toInt64 (0 : Int64) (7 : Int64)))])
  refine ti (show (bI (inL v.toInt64 (0 : Int64) (7 : Int64))) = (bI (inR v (nI 0) (nI 7))) from (congrArg bI (inL_c (a := 0) (b := 7) (by decide) (by decide)))) ?_
  exact rd_z rfl hx hb hr dX8_isFinder_9 hlk
set_option maxHeartbeats 4000000 in
set_option maxRecDepth 100000 in
theorem c_X8_isSetting (l : Launch) (vw : Int32) (vv : Int32) : Met l yX8_isSetting (Cond.code yX8_isSetting cX8_isSetting 2 (some .boolean) :: wsL_law) ({ frames := 1, cells := 0, slots := 0, locals := 25 } : Room) (va_Pc [.int vw, .int vv] (fun _ => True)) (rd_Q (some (.int (bI ((decide (vw = 0) && inR vv (nI 0) (nI 50)) || (decide (vw = nI 1) && inR vv (nI 0) (nI 8))))))) 0 0 (nF) := by
  refine mt_0 (cc := cX8_isSetting) (maxL := 2) (ret := (some .boolean)) (by decide +kernel) (Nat.le_of_ble_eq_true rfl) ?_
  intro pX eX s mX below meth cX ls hx hb hr hml hown hts hlk hl
  have hl : lv_has ls 2 [(0, .int vw), (1, .int vv)] := hl
  refine lv_iload_n hx hb dX8_isSetting_0 rfl (lv_at hl 0 rfl) ?_
  refine lv_if_ne (tgt := 16) hx hb dX8_isSetting_1 (by decide) (fun c_1 => ?_) (fun c_1 => ?_)
  · skip
    refine lv_iload_n hx hb dX8_isSetting_16 rfl (lv_at hl 0 rfl) ?_
    refine lv_iconst (v := (nI 1)) hx hb dX8_isSetting_17 (by decide) ?_
    refine lv_icmp_ne (tgt := 37) hx hb dX8_isSetting_18 (by decide) (fun c_18 => ?_) (fun c_18 => ?_)
    · skip
      refine lv_iconst (v := (nI 0)) hx hb dX8_isSetting_37 (by decide) ?_
      exact rd_z (by rw [show ((decide (vw = 0) && inR vv (nI 0) (nI 50)) || (decide (vw = nI 1) && inR vv (nI 0) (nI 8))) = false from by simp [n1_0, n0_1, c_1, c_18]]; rfl) hx hb hr dX8_isSetting_38 hlk
    · skip
      refine lv_iload_n hx hb dX8_isSetting_21 rfl (lv_at hl 1 rfl) ?_
      refine lv_i2l (v := vv.toInt64) hx hb dX8_isSetting_22 rfl ?_
      refine lv_lconst (v := 0) hx hb dX8_isSetting_23 rfl ?_
      refine lv_ldc2 hx hb hown (hts _ wd26_11) dX8_isSetting_24 ?_
      refine rd_call (va_runS (As := [.long vv.toInt64, .long (0 : Int64), .long (8 : Int64)]) (rest := []) ⟨hx, hb, hml, hown, hts⟩ (c_X8_in l vv.toInt64 (0 : Int64) (8 : Int64) ) ⟨(cB 3 hts wd7_17 wd1_5 wd7_15 rfl rfl (by decide +kernel) ⟨Nat.le_of_ble_eq_true rfl, Nat.le_of_ble_eq_true rfl⟩), hts _ wd7_16⟩ p0 rfl rfl hl.1 rfl (lv_room (Nat.le_of_ble_eq_true rfl)) dX8_isSetting_27 ⟨Nat.zero_le _, Nat.zero_le _⟩) ?_
      show W _ _ _ _ _ _ _ _ _ _ _ _ _ _ _ (F0 mX 30 ls [.int (bI (inL vv.toInt64 (0 : Int64) (8 : Int64)))])
      refine ti (show (bI (inL vv.toInt64 (0 : Int64) (8 : Int64))) = (bI (inR vv (nI 0) (nI 8))) from (congrArg bI (inL_c (a := 0) (b := 8) (by decide) (by decide)))) ?_
      refine lv_if_eq (tgt := 37) hx hb dX8_isSetting_30 (by decide) (fun c_30 => ?_) (fun c_30 => ?_)
      · have c_30 := (bI_eq0.mp c_30)
        refine lv_iconst (v := (nI 0)) hx hb dX8_isSetting_37 (by decide) ?_
        exact rd_z (by rw [show ((decide (vw = 0) && inR vv (nI 0) (nI 50)) || (decide (vw = nI 1) && inR vv (nI 0) (nI 8))) = false from by simp [n1_0, n0_1, c_1, c_18, c_30]]; rfl) hx hb hr dX8_isSetting_38 hlk
      · have c_30 := (bI_ne0.mp c_30)
        refine lv_iconst (v := (nI 1)) hx hb dX8_isSetting_33 (by decide) ?_
        refine lv_goto (tgt := 38) hx hb dX8_isSetting_34 (by decide) ?_
        exact rd_z (by rw [show ((decide (vw = 0) && inR vv (nI 0) (nI 50)) || (decide (vw = nI 1) && inR vv (nI 0) (nI 8))) = true from by simp [n1_0, n0_1, c_1, c_18, c_30]]; rfl) hx hb hr dX8_isSetting_38 hlk
  · skip
    refine lv_iload_n hx hb dX8_isSetting_4 rfl (lv_at hl 1 rfl) ?_
    refine lv_i2l (v := vv.toInt64) hx hb dX8_isSetting_5 rfl ?_
    refine lv_lconst (v := 0) hx hb dX8_isSetting_6 rfl ?_
    refine lv_ldc2 hx hb hown (hts _ wd34_2) dX8_isSetting_7 ?_
    refine rd_call (va_runS (As := [.long vv.toInt64, .long (0 : Int64), .long (50 : Int64)]) (rest := []) ⟨hx, hb, hml, hown, hts⟩ (c_X8_in l vv.toInt64 (0 : Int64) (50 : Int64) ) ⟨(cB 3 hts wd7_17 wd1_5 wd7_15 rfl rfl (by decide +kernel) ⟨Nat.le_of_ble_eq_true rfl, Nat.le_of_ble_eq_true rfl⟩), hts _ wd7_16⟩ p0 rfl rfl hl.1 rfl (lv_room (Nat.le_of_ble_eq_true rfl)) dX8_isSetting_10 ⟨Nat.zero_le _, Nat.zero_le _⟩) ?_
    show W _ _ _ _ _ _ _ _ _ _ _ _ _ _ _ (F0 mX 13 ls [.int (bI (inL vv.toInt64 (0 : Int64) (50 : Int64)))])
    refine ti (show (bI (inL vv.toInt64 (0 : Int64) (50 : Int64))) = (bI (inR vv (nI 0) (nI 50))) from (congrArg bI (inL_c (a := 0) (b := 50) (by decide) (by decide)))) ?_
    refine lv_if_ne (tgt := 33) hx hb dX8_isSetting_13 (by decide) (fun c_13 => ?_) (fun c_13 => ?_)
    · have c_13 := (bI_ne0.mp c_13)
      refine lv_iconst (v := (nI 1)) hx hb dX8_isSetting_33 (by decide) ?_
      refine lv_goto (tgt := 38) hx hb dX8_isSetting_34 (by decide) ?_
      exact rd_z (by rw [show ((decide (vw = 0) && inR vv (nI 0) (nI 50)) || (decide (vw = nI 1) && inR vv (nI 0) (nI 8))) = true from by simp [n1_0, n0_1, c_1, c_13]]; rfl) hx hb hr dX8_isSetting_38 hlk
    · have c_13 := (bI_eq0.mp c_13)
      refine lv_iload_n hx hb dX8_isSetting_16 rfl (lv_at hl 0 rfl) ?_
      refine lv_iconst (v := (nI 1)) hx hb dX8_isSetting_17 (by decide) ?_
      refine lv_icmp_ne (tgt := 37) hx hb dX8_isSetting_18 (by decide) (fun c_18 => ?_) (fun c_18 => ?_)
      · skip
        refine lv_iconst (v := (nI 0)) hx hb dX8_isSetting_37 (by decide) ?_
        exact rd_z (by rw [show ((decide (vw = 0) && inR vv (nI 0) (nI 50)) || (decide (vw = nI 1) && inR vv (nI 0) (nI 8))) = false from by simp [n1_0, n0_1, c_1, c_13, c_18]]; rfl) hx hb hr dX8_isSetting_38 hlk
      · skip
        exact absurd (c_1.symm.trans c_18) (by decide)
set_option maxHeartbeats 4000000 in
set_option maxRecDepth 100000 in
theorem c_X8_street (l : Launch) (a : Nat) (b : Nat) (ha : a < 12) (hb9 : b < 20) : Met l yX8_street (Cond.code yX8_street cX8_street 4 (some .int) :: wsL_law) ({ frames := 0, cells := 0, slots := 0, locals := 0 } : Room) (va_Pc [.int (nI a), .int (nI b)] (fun _ => True)) (rd_Q (some (.int (nI (stp a b))))) 0 0 (nF) := by
  refine mt_0 (cc := cX8_street) (maxL := 4) (ret := (some .int)) (by decide +kernel) (Nat.le_of_ble_eq_true rfl) ?_
  intro pX eX s mX below meth cX ls hx hb hr hml hown hts hlk hl
  have hl : lv_has ls 4 [(0, .int (nI a)), (1, .int (nI b))] := hl
  refine lv_iload_n hx hb dX8_street_0 rfl (lv_at hl 0 rfl) ?_
  refine lv_iload_n hx hb dX8_street_1 rfl (lv_at hl 1 rfl) ?_
  refine lv_icmp_ge (tgt := 9) hx hb dX8_street_2 (by decide) (fun c_2 => ?_) (fun c_2 => ?_)
  · have c_2 := (nc_le (by omega) (by omega) c_2)
    refine lv_iload_n hx hb dX8_street_9 rfl (lv_at hl 1 rfl) ?_
    refine lv_istore_n (lv' := [(2, .int (nI b)), (0, .int (nI a)), (1, .int (nI b))]) hx hb dX8_street_10 rfl hl (by decide) rfl (fun ls hl => ?_)
    refine lv_iload_n hx hb dX8_street_11 rfl (lv_at hl 1 rfl) ?_
    refine lv_iload_n hx hb dX8_street_12 rfl (lv_at hl 2 rfl) ?_
    refine lv_icmp_ge (tgt := 22) hx hb dX8_street_13 (by decide) (fun c_13 => ?_) (fun c_13 => ?_)
    · have c_13 := (nc_le (by omega) (by omega) c_13)
      refine lv_iload_n hx hb dX8_street_22 rfl (lv_at hl 1 rfl) ?_
      refine lv_iload_n hx hb dX8_street_23 rfl (lv_at hl 2 rfl) ?_
      refine lv_isub hx hb dX8_street_24 ?_
      refine ti (show ((nI a) - (nI b)) = (nI (a - b)) from (pk_sub (by omega))) ?_
      refine lv_istore_n (lv' := [(3, .int (nI (a - b))), (2, .int (nI b)), (0, .int (nI a)), (1, .int (nI b))]) hx hb dX8_street_25 rfl hl (by decide) rfl (fun ls hl => ?_)
      refine lv_iload_n hx hb dX8_street_26 rfl (lv_at hl 0 rfl) ?_
      refine lv_iconst (v := (nI 4)) hx hb dX8_street_27 (by decide) ?_
      refine lv_icmp_ne (tgt := 38) hx hb dX8_street_28 (by decide) (fun c_28 => ?_) (fun c_28 => ?_)
      · have c_28 := (nc_ne9 (by omega) (by omega) c_28)
        refine lv_iload_n hx hb dX8_street_38 rfl (lv_at hl 0 rfl) ?_
        refine lv_iconst (v := (nI 1)) hx hb dX8_street_39 (by decide) ?_
        refine lv_icmp_ne (tgt := 57) hx hb dX8_street_40 (by decide) (fun c_40 => ?_) (fun c_40 => ?_)
        · have c_40 := (nc_ne9 (by omega) (by omega) c_40)
          refine lv_iconst (v := (nI NN)) hx hb dX8_street_57 (by decide) ?_
          exact rd_i (congrArg nI (by unfold stp; (repeat' split) <;> omega)) hx hb hr dX8_street_58 hlk
        · have c_40 := (nc_eq9 (by omega) (by omega) c_40)
          refine lv_iload_n hx hb dX8_street_43 rfl (lv_at hl 1 rfl) ?_
          refine lv_iconst (v := (nI 4)) hx hb dX8_street_44 (by decide) ?_
          refine lv_irem hx hb dX8_street_45 (nI_ne0 (by omega) (by omega)) ?_
          refine ti (pk_rem (a := b) (d := 4) (by omega) (by omega) (by omega)) ?_
          refine lv_iconst (v := (nI 3)) hx hb dX8_street_46 (by decide) ?_
          refine lv_icmp_ge (tgt := 57) hx hb dX8_street_47 (by decide) (fun c_47 => ?_) (fun c_47 => ?_)
          · have c_47 := (nc_le (by omega) (by omega) c_47)
            refine lv_iconst (v := (nI NN)) hx hb dX8_street_57 (by decide) ?_
            exact rd_i (congrArg nI (by unfold stp; (repeat' split) <;> omega)) hx hb hr dX8_street_58 hlk
          · have c_47 := (nc_nle (by omega) (by omega) c_47)
            refine lv_bipush (v := (nI 16)) hx hb dX8_street_50 (by decide) ?_
            refine lv_iload_n hx hb dX8_street_52 rfl (lv_at hl 1 rfl) ?_
            refine lv_iadd hx hb dX8_street_53 ?_
            refine ti (nI_add 16 b) ?_
            refine lv_goto (tgt := 58) hx hb dX8_street_54 (by decide) ?_
            exact rd_i (congrArg nI (by unfold stp; (repeat' split) <;> omega)) hx hb hr dX8_street_58 hlk
      · have c_28 := (nc_eq9 (by omega) (by omega) c_28)
        refine lv_bipush (v := (nI 28)) hx hb dX8_street_31 (by decide) ?_
        refine lv_iload_n hx hb dX8_street_33 rfl (lv_at hl 1 rfl) ?_
        refine lv_iadd hx hb dX8_street_34 ?_
        refine ti (nI_add 28 b) ?_
        refine lv_goto (tgt := 58) hx hb dX8_street_35 (by decide) ?_
        exact rd_i (congrArg nI (by unfold stp; (repeat' split) <;> omega)) hx hb hr dX8_street_58 hlk
    · have c_13 := (nc_nle (by omega) (by omega) c_13)
      omega
  · have c_2 := (nc_nle (by omega) (by omega) c_2)
    refine lv_iload_n hx hb dX8_street_5 rfl (lv_at hl 0 rfl) ?_
    refine lv_goto (tgt := 10) hx hb dX8_street_6 (by decide) ?_
    refine lv_istore_n (lv' := [(2, .int (nI a)), (0, .int (nI a)), (1, .int (nI b))]) hx hb dX8_street_10 rfl hl (by decide) rfl (fun ls hl => ?_)
    refine lv_iload_n hx hb dX8_street_11 rfl (lv_at hl 1 rfl) ?_
    refine lv_iload_n hx hb dX8_street_12 rfl (lv_at hl 2 rfl) ?_
    refine lv_icmp_ge (tgt := 22) hx hb dX8_street_13 (by decide) (fun c_13 => ?_) (fun c_13 => ?_)
    · have c_13 := (nc_le (by omega) (by omega) c_13)
      omega
    · have c_13 := (nc_nle (by omega) (by omega) c_13)
      refine lv_iload_n hx hb dX8_street_16 rfl (lv_at hl 2 rfl) ?_
      refine lv_iload_n hx hb dX8_street_17 rfl (lv_at hl 1 rfl) ?_
      refine lv_isub hx hb dX8_street_18 ?_
      refine ti (show ((nI b) - (nI a)) = (nI (b - a)) from (pk_sub (by omega))) ?_
      refine lv_goto (tgt := 25) hx hb dX8_street_19 (by decide) ?_
      refine lv_istore_n (lv' := [(3, .int (nI (b - a))), (2, .int (nI a)), (0, .int (nI a)), (1, .int (nI b))]) hx hb dX8_street_25 rfl hl (by decide) rfl (fun ls hl => ?_)
      refine lv_iload_n hx hb dX8_street_26 rfl (lv_at hl 0 rfl) ?_
      refine lv_iconst (v := (nI 4)) hx hb dX8_street_27 (by decide) ?_
      refine lv_icmp_ne (tgt := 38) hx hb dX8_street_28 (by decide) (fun c_28 => ?_) (fun c_28 => ?_)
      · have c_28 := (nc_ne9 (by omega) (by omega) c_28)
        refine lv_iload_n hx hb dX8_street_38 rfl (lv_at hl 0 rfl) ?_
        refine lv_iconst (v := (nI 1)) hx hb dX8_street_39 (by decide) ?_
        refine lv_icmp_ne (tgt := 57) hx hb dX8_street_40 (by decide) (fun c_40 => ?_) (fun c_40 => ?_)
        · have c_40 := (nc_ne9 (by omega) (by omega) c_40)
          refine lv_iconst (v := (nI NN)) hx hb dX8_street_57 (by decide) ?_
          exact rd_i (congrArg nI (by unfold stp; (repeat' split) <;> omega)) hx hb hr dX8_street_58 hlk
        · have c_40 := (nc_eq9 (by omega) (by omega) c_40)
          refine lv_iload_n hx hb dX8_street_43 rfl (lv_at hl 1 rfl) ?_
          refine lv_iconst (v := (nI 4)) hx hb dX8_street_44 (by decide) ?_
          refine lv_irem hx hb dX8_street_45 (nI_ne0 (by omega) (by omega)) ?_
          refine ti (pk_rem (a := a) (d := 4) (by omega) (by omega) (by omega)) ?_
          refine lv_iconst (v := (nI 3)) hx hb dX8_street_46 (by decide) ?_
          refine lv_icmp_ge (tgt := 57) hx hb dX8_street_47 (by decide) (fun c_47 => ?_) (fun c_47 => ?_)
          · have c_47 := (nc_le (by omega) (by omega) c_47)
            refine lv_iconst (v := (nI NN)) hx hb dX8_street_57 (by decide) ?_
            exact rd_i (congrArg nI (by unfold stp; (repeat' split) <;> omega)) hx hb hr dX8_street_58 hlk
          · have c_47 := (nc_nle (by omega) (by omega) c_47)
            refine lv_bipush (v := (nI 16)) hx hb dX8_street_50 (by decide) ?_
            refine lv_iload_n hx hb dX8_street_52 rfl (lv_at hl 1 rfl) ?_
            refine lv_iadd hx hb dX8_street_53 ?_
            refine ti (nI_add 16 a) ?_
            refine lv_goto (tgt := 58) hx hb dX8_street_54 (by decide) ?_
            exact rd_i (congrArg nI (by unfold stp; (repeat' split) <;> omega)) hx hb hr dX8_street_58 hlk
      · have c_28 := (nc_eq9 (by omega) (by omega) c_28)
        refine lv_bipush (v := (nI 28)) hx hb dX8_street_31 (by decide) ?_
        refine lv_iload_n hx hb dX8_street_33 rfl (lv_at hl 1 rfl) ?_
        refine lv_iadd hx hb dX8_street_34 ?_
        refine ti (nI_add 28 a) ?_
        refine lv_goto (tgt := 58) hx hb dX8_street_35 (by decide) ?_
        exact rd_i (congrArg nI (by unfold stp; (repeat' split) <;> omega)) hx hb hr dX8_street_58 hlk
set_option maxHeartbeats 4000000 in
set_option maxRecDepth 100000 in
theorem c_X8_bits (l : Launch) (m : Nat) (hm : m < 256) : Met l yX8_bits (Cond.code yX8_bits cX8_bits 3 (some .int) :: wsL_law) ({ frames := 0, cells := 0, slots := 0, locals := 0 } : Room) (va_Pc [.int (nI m)] (fun _ => True)) (rd_Q (some (.int (nI (ct m.testBit 24))))) 0 0 (nF) := by
  refine mt_0 (cc := cX8_bits) (maxL := 3) (ret := (some .int)) (by decide +kernel) (Nat.le_of_ble_eq_true rfl) ?_
  intro pX eX s mX below meth cX ls hx hb hr hml hown hts hlk hl
  have hl : lv_has ls 3 [(0, .int (nI m))] := hl
  refine lv_iconst (v := (nI 0)) hx hb dX8_bits_0 (by decide) ?_
  refine lv_istore_n (lv' := [(1, .int (nI 0)), (0, .int (nI m))]) hx hb dX8_bits_1 rfl hl (by decide) rfl (fun ls hl => ?_)
  refine lv_iconst (v := (nI 0)) hx hb dX8_bits_2 (by decide) ?_
  refine lv_istore_n (lv' := [(2, .int (nI 0)), (1, .int (nI 0)), (0, .int (nI m))]) hx hb dX8_bits_3 rfl hl (by decide) rfl (fun ls hl => ?_)
  have hl : lv_has ls 3 [(2, .int (nI 0)), (1, .int (nI (ct m.testBit 0))), (0, .int (nI m))] := by rw [← show (nI 0) = (nI (ct m.testBit 0)) from rfl]; exact hl
  refine lp_rd (σ := (Nat)) (fun x9 ls9 => lv_has ls9 3 [(0, .int (nI m)), (1, .int (nI (ct m.testBit x9))), (2, .int (nI x9))] ∧ (x9 ≤ 8)) (fun x9 => 8 - x9) (0) ⟨lv_sub hl [2, 1, 0] rfl, (by omega)⟩ ?_
  rintro i ls ⟨hl, hi⟩ ih4
  try dsimp only at hl hi ih4
  refine lv_iload_n hx hb dX8_bits_4 rfl (lv_at hl 2 rfl) ?_
  refine lv_bipush (v := (nI 8)) hx hb dX8_bits_5 (by decide) ?_
  refine lv_icmp_ge (tgt := 24) hx hb dX8_bits_7 (by decide) (fun c_7 => ?_) (fun c_7 => ?_)
  · have c_7 := (nc_le (by omega) (by omega) c_7)
    have e9 : i = 8 := by omega
    subst e9
    refine lv_iload_n hx hb dX8_bits_24 rfl (lv_at hl 1 rfl) ?_
    exact rd_i (congrArg nI (ct8 hm)) hx hb hr dX8_bits_25 hlk
  · have c_7 := (nc_nle (by omega) (by omega) c_7)
    refine lv_iload_n hx hb dX8_bits_10 rfl (lv_at hl 1 rfl) ?_
    refine lv_iload_n hx hb dX8_bits_11 rfl (lv_at hl 0 rfl) ?_
    refine lv_iload_n hx hb dX8_bits_12 rfl (lv_at hl 2 rfl) ?_
    refine lv_ishr hx hb dX8_bits_13 ?_
    refine ti (nb_shr (m := m) (k := i) (by omega) (by omega)) ?_
    refine lv_iconst (v := (nI 1)) hx hb dX8_bits_14 (by decide) ?_
    refine lv_iand hx hb dX8_bits_15 ?_
    refine ti (nx_and (m / 2 ^ i) 1) ?_
    refine ti (show (nI ((m / 2 ^ i) &&& 1)) = (nI (if m.testBit i then 1 else 0)) from (by rw [← nx_and, nb_bit, bI_n])) ?_
    refine lv_iadd hx hb dX8_bits_16 ?_
    refine ti (nI_add (ct m.testBit i) (if m.testBit i then 1 else 0)) ?_
    refine lv_istore_n (lv' := [(1, .int (nI ((ct m.testBit i) + (if m.testBit i then 1 else 0)))), (0, .int (nI m)), (2, .int (nI i))]) hx hb dX8_bits_17 rfl hl (by decide) rfl (fun ls hl => ?_)
    have hl : lv_has ls 3 [(1, .int (nI (ct m.testBit (i + 1)))), (0, .int (nI m)), (2, .int (nI i))] := by rw [← show (nI ((ct m.testBit i) + (if m.testBit i then 1 else 0))) = (nI (ct m.testBit (i + 1))) from rfl]; exact hl
    refine lv_iinc (v := (nI (i + 1))) (lv' := [(2, .int (nI (i + 1))), (1, .int (nI (ct m.testBit (i + 1)))), (0, .int (nI m))]) hx hb dX8_bits_18 hl (k := 2) rfl (nI_add i 1) (by decide) rfl (fun ls hl => ?_)
    refine lv_goto (tgt := 4) hx hb dX8_bits_21 (by decide) ?_
    exact ih4 (i + 1) ls ⟨lv_sub hl [2, 1, 0] rfl, (by omega)⟩ (by first | omega | (dsimp only; omega))
set_option maxHeartbeats 4000000 in
set_option maxRecDepth 100000 in
theorem c_X8_ofDog (l : Launch) (g : va_G) (cy : Nat → ClassId) (sa : Nat) (sz : Nat) (σ : Nat → Nat) (d : Nat) (k : Nat) (hd : d < 6) (hk : k < 8) : Met l yX8_ofDog (Cond.code yX8_ofDog cX8_ofDog 3 (some .int) :: wsL_law) ({ frames := 0, cells := 0, slots := 0, locals := 0 } : Room) (va_Pc [.ref sa, .int (nI d), .int (nI k)] (pr g cy [aI cy sa 248 (mS σ)] sz)) (rd_Q (some (.int (nI (dg σ d k))))) 0 0 (nF) := by
  refine mt_of (cc := cX8_ofDog) (maxL := 3) (ret := (some .int)) (by decide +kernel) (Nat.le_of_ble_eq_true rfl) ?_
  intro pX eX s mX below meth cX ls A hx hb hr hml hown hts hlk hin hsz hAe hA hP hD hK hX hl
  have hl : lv_has ls 3 [(0, .ref sa), (1, .int (nI d)), (2, .int (nI k))] := hl
  have hS : va_S A s.heap s.heap [] := va_S.rf
  refine lv_aload_n hx hb dX8_ofDog_0 rfl (lv_at hl 0 rfl) ?_
  refine lv_bipush (v := (nI 40)) hx hb dX8_ofDog_1 (by decide) ?_
  refine lv_bipush (v := (nI 8)) hx hb dX8_ofDog_3 (by decide) ?_
  refine lv_iload_n hx hb dX8_ofDog_5 rfl (lv_at hl 1 rfl) ?_
  refine lv_imul hx hb dX8_ofDog_6 ?_
  refine ti (pk_mul 8 d) ?_
  refine lv_iadd hx hb dX8_ofDog_7 ?_
  refine ti (nI_add 40 (8 * d)) ?_
  refine lv_iload_n hx hb dX8_ofDog_8 rfl (lv_at hl 2 rfl) ?_
  refine lv_iadd hx hb dX8_ofDog_9 ?_
  refine ti (nI_add (40 + (8 * d)) k) ?_
  refine va_iald hx hb hK hP 0 0 rfl rfl (vp_in_nI (n := ((40 + (8 * d)) + k)) (by omega) (by omega)) dX8_ofDog_10 ?_
  refine ti (show (mS σ) (nI ((40 + (8 * d)) + k)).toNatClampNeg = nI (σ ((40 + (8 * d)) + k)) from by rw [nI_clamp (by omega)]; rfl) ?_
  exact rd_i rfl hx hb hr dX8_ofDog_11 hlk
set_option maxHeartbeats 4000000 in
set_option maxRecDepth 100000 in
theorem c_X8_ofSight (l : Launch) (g : va_G) (cy : Nat → ClassId) (sa : Nat) (sz : Nat) (σ : Nat → Nat) (s9 : Nat) (k : Nat) (hs : s9 < 20) (hk : k < 8) : Met l yX8_ofSight (Cond.code yX8_ofSight cX8_ofSight 3 (some .int) :: wsL_law) ({ frames := 0, cells := 0, slots := 0, locals := 0 } : Room) (va_Pc [.ref sa, .int (nI s9), .int (nI k)] (pr g cy [aI cy sa 248 (mS σ)] sz)) (rd_Q (some (.int (nI (sg σ s9 k))))) 0 0 (nF) := by
  refine mt_of (cc := cX8_ofSight) (maxL := 3) (ret := (some .int)) (by decide +kernel) (Nat.le_of_ble_eq_true rfl) ?_
  intro pX eX s mX below meth cX ls A hx hb hr hml hown hts hlk hin hsz hAe hA hP hD hK hX hl
  have hl : lv_has ls 3 [(0, .ref sa), (1, .int (nI s9)), (2, .int (nI k))] := hl
  have hS : va_S A s.heap s.heap [] := va_S.rf
  refine lv_aload_n hx hb dX8_ofSight_0 rfl (lv_at hl 0 rfl) ?_
  refine lv_bipush (v := (nI 88)) hx hb dX8_ofSight_1 (by decide) ?_
  refine lv_bipush (v := (nI 8)) hx hb dX8_ofSight_3 (by decide) ?_
  refine lv_iload_n hx hb dX8_ofSight_5 rfl (lv_at hl 1 rfl) ?_
  refine lv_imul hx hb dX8_ofSight_6 ?_
  refine ti (pk_mul 8 s9) ?_
  refine lv_iadd hx hb dX8_ofSight_7 ?_
  refine ti (nI_add 88 (8 * s9)) ?_
  refine lv_iload_n hx hb dX8_ofSight_8 rfl (lv_at hl 2 rfl) ?_
  refine lv_iadd hx hb dX8_ofSight_9 ?_
  refine ti (nI_add (88 + (8 * s9)) k) ?_
  refine va_iald hx hb hK hP 0 0 rfl rfl (vp_in_nI (n := ((88 + (8 * s9)) + k)) (by omega) (by omega)) dX8_ofSight_10 ?_
  refine ti (show (mS σ) (nI ((88 + (8 * s9)) + k)).toNatClampNeg = nI (σ ((88 + (8 * s9)) + k)) from by rw [nI_clamp (by omega)]; rfl) ?_
  exact rd_i rfl hx hb hr dX8_ofSight_11 hlk
set_option maxHeartbeats 4000000 in
set_option maxRecDepth 100000 in
theorem c_X8_isDog (l : Launch) (g : va_G) (cy : Nat → ClassId) (sa : Nat) (sz : Nat) (σ : Nat → Nat) (vd : Int32) (hn0 : σ 0 ≤ 6) : Met l yX8_isDog (Cond.code yX8_isDog cX8_isDog 2 (some .boolean) :: wsL_law) ({ frames := 1, cells := 0, slots := 0, locals := 25 } : Room) (va_Pc [.ref sa, .int vd] (pr g cy [aI cy sa 248 (mS σ)] sz)) (rd_Q (some (.int (bI (hasR (σ 0) vd))))) 0 0 (nF) := by
  refine mt_of (cc := cX8_isDog) (maxL := 2) (ret := (some .boolean)) (by decide +kernel) (Nat.le_of_ble_eq_true rfl) ?_
  intro pX eX s mX below meth cX ls A hx hb hr hml hown hts hlk hin hsz hAe hA hP hD hK hX hl
  have hl : lv_has ls 2 [(0, .ref sa), (1, .int vd)] := hl
  have hS : va_S A s.heap s.heap [] := va_S.rf
  refine lv_iload_n hx hb dX8_isDog_0 rfl (lv_at hl 1 rfl) ?_
  refine lv_i2l (v := vd.toInt64) hx hb dX8_isDog_1 rfl ?_
  refine lv_lconst (v := 0) hx hb dX8_isDog_2 rfl ?_
  refine lv_aload_n hx hb dX8_isDog_3 rfl (lv_at hl 0 rfl) ?_
  refine lv_iconst (v := (nI 0)) hx hb dX8_isDog_4 (by decide) ?_
  refine va_iald hx hb hK hP 0 0 rfl rfl (vp_in_nI (n := 0) (by omega) (by omega)) dX8_isDog_5 ?_
  refine ti (show (mS σ) (nI 0).toNatClampNeg = nI (σ 0) from by rw [nI_clamp (by omega)]; rfl) ?_
  refine lv_iconst (v := (nI 1)) hx hb dX8_isDog_6 (by decide) ?_
  refine lv_isub hx hb dX8_isDog_7 ?_
  refine lv_i2l (v := ((nI (σ 0)) - (nI 1)).toInt64) hx hb dX8_isDog_8 rfl ?_
  refine rd_call (va_runS (As := [.long vd.toInt64, .long (0 : Int64), .long (((nI (σ 0)) - (nI 1)).toInt64)]) (rest := []) ⟨hx, hb, hml, hown, hts⟩ (c_X8_in l vd.toInt64 (0 : Int64) (((nI (σ 0)) - (nI 1)).toInt64) ) ⟨(cB 3 hts wd7_17 wd1_5 wd7_15 rfl rfl (by decide +kernel) ⟨Nat.le_of_ble_eq_true rfl, Nat.le_of_ble_eq_true rfl⟩), hts _ wd7_16⟩ p0 rfl rfl hl.1 rfl (lv_room (Nat.le_of_ble_eq_true rfl)) dX8_isDog_9 ⟨Nat.zero_le _, Nat.zero_le _⟩) ?_
  show W _ _ _ _ _ _ _ _ _ _ _ _ _ _ _ (F0 mX 12 ls [.int (bI (inL vd.toInt64 (0 : Int64) (((nI (σ 0)) - (nI 1)).toInt64)))])
  refine ti (show (bI (inL vd.toInt64 (0 : Int64) (((nI (σ 0)) - (nI 1)).toInt64))) = (bI (hasR (σ 0) vd)) from (congrArg bI (inL_dog (by omega)))) ?_
  exact rd_z rfl hx hb hr dX8_isDog_12 hlk
set_option maxHeartbeats 4000000 in
set_option maxRecDepth 100000 in
theorem c_X8_isMissing (l : Launch) (g : va_G) (cy : Nat → ClassId) (sa : Nat) (sz : Nat) (σ : Nat → Nat) (d : Nat) (hd : d < 6) (h5 : dg σ d 5 < 2 ^ 32) : Met l yX8_isMissing (Cond.code yX8_isMissing cX8_isMissing 2 (some .boolean) :: wsL_law) ({ frames := 1, cells := 0, slots := 0, locals := 22 } : Room) (va_Pc [.ref sa, .int (nI d)] (pr g cy [aI cy sa 248 (mS σ)] sz)) (rd_Q (some (.int (bI (msg σ d))))) 0 0 (nF) := by
  refine mt_of (cc := cX8_isMissing) (maxL := 2) (ret := (some .boolean)) (by decide +kernel) (Nat.le_of_ble_eq_true rfl) ?_
  intro pX eX s mX below meth cX ls A hx hb hr hml hown hts hlk hin hsz hAe hA hP hD hK hX hl
  have hl : lv_has ls 2 [(0, .ref sa), (1, .int (nI d))] := hl
  have hS : va_S A s.heap s.heap [] := va_S.rf
  refine lv_aload_n hx hb dX8_isMissing_0 rfl (lv_at hl 0 rfl) ?_
  refine lv_iload_n hx hb dX8_isMissing_1 rfl (lv_at hl 1 rfl) ?_
  refine lv_iconst (v := (nI 5)) hx hb dX8_isMissing_2 (by decide) ?_
  refine rd_call (va_runS (As := [.ref sa, .int (nI d), .int (nI 5)]) (rest := []) ⟨hx, hb, hml, hown, hts⟩ (c_X8_ofDog l g cy sa s.heap.size σ d 5 (by omega) (by omega)) ⟨(cB 3 hts wd12_23 wd1_5 wd12_21 rfl rfl (by decide +kernel) ⟨Nat.le_of_ble_eq_true rfl, Nat.le_of_ble_eq_true rfl⟩), hts _ wd12_22⟩ (ps hK hP hD hS hA hX [0] rfl rfl) rfl rfl hl.1 rfl (lv_room (Nat.le_of_ble_eq_true rfl)) dX8_isMissing_3 ⟨Nat.zero_le _, Nat.zero_le _⟩) ?_
  show W _ _ _ _ _ _ _ _ _ _ _ _ _ _ _ (F0 mX 6 ls [.int (nI (dg σ d 5))])
  refine lv_iconst (v := (nI NN)) hx hb dX8_isMissing_6 (by decide) ?_
  refine lv_icmp_ne (tgt := 14) hx hb dX8_isMissing_7 (by decide) (fun c_7 => ?_) (fun c_7 => ?_)
  · have c_7 := (nc_ne9 (by omega) (by decide) c_7)
    refine lv_iconst (v := (nI 0)) hx hb dX8_isMissing_14 (by decide) ?_
    exact rd_z (by simp [msg, bI, nI_0, nI_o, c_7]) hx hb hr dX8_isMissing_15 hlk
  · have c_7 := (nc_eq9 (by omega) (by decide) c_7)
    refine lv_iconst (v := (nI 1)) hx hb dX8_isMissing_10 (by decide) ?_
    refine lv_goto (tgt := 15) hx hb dX8_isMissing_11 (by decide) ?_
    exact rd_z (by simp [msg, bI, nI_0, nI_o, c_7]) hx hb hr dX8_isMissing_15 hlk
set_option maxHeartbeats 4000000 in
set_option maxRecDepth 100000 in
theorem c_X8_closedMany (l : Launch) (g : va_G) (cy : Nat → ClassId) (sa : Nat) (sz : Nat) (σ : Nat → Nat) (bd : Nat) (hwf : WF bd σ) : Met l yX8_closedMany (Cond.code yX8_closedMany cX8_closedMany 3 (some .int) :: wsL_law) ({ frames := 0, cells := 0, slots := 0, locals := 0 } : Room) (va_Pc [.ref sa] (pr g cy [aI cy sa 248 (mS σ)] sz)) (rd_Q (some (.int (nI (ct (cmk σ).testBit 24))))) 0 0 (nF) := by
  refine mt_of (cc := cX8_closedMany) (maxL := 3) (ret := (some .int)) (by decide +kernel) (Nat.le_of_ble_eq_true rfl) ?_
  intro pX eX s mX below meth cX ls A hx hb hr hml hown hts hlk hin hsz hAe hA hP hD hK hX hl
  have hl : lv_has ls 3 [(0, .ref sa)] := hl
  have hS : va_S A s.heap s.heap [] := va_S.rf
  have hn0 := hwf.n0
  have hn1 := hwf.n1
  have hh2 := hwf.h2
  refine lv_iconst (v := (nI 0)) hx hb dX8_closedMany_0 (by decide) ?_
  refine lv_istore_n (lv' := [(1, .int (nI 0)), (0, .ref sa)]) hx hb dX8_closedMany_1 rfl hl (by decide) rfl (fun ls hl => ?_)
  refine lv_bipush (v := (nI 16)) hx hb dX8_closedMany_2 (by decide) ?_
  refine lv_istore_n (lv' := [(2, .int (nI 16)), (1, .int (nI 0)), (0, .ref sa)]) hx hb dX8_closedMany_4 rfl hl (by decide) rfl (fun ls hl => ?_)
  have hl : lv_has ls 3 [(2, .int (nI 16)), (1, .int (nI (sm (fun k => σ (16 + k)) 0))), (0, .ref sa)] := by rw [← show (nI 0) = (nI (sm (fun k => σ (16 + k)) 0)) from rfl]; exact hl
  have hl : lv_has ls 3 [(2, .int (nI (16 + 0))), (1, .int (nI (sm (fun k => σ (16 + k)) 0))), (0, .ref sa)] := by rw [← show (nI 16) = (nI (16 + 0)) from rfl]; exact hl
  refine lp_rd (σ := (Nat)) (fun x9 ls9 => lv_has ls9 3 [(0, .ref sa), (1, .int (nI (sm (fun k => σ (16 + k)) x9))), (2, .int (nI (16 + x9)))] ∧ (x9 ≤ 24)) (fun x9 => 24 - x9) (0) ⟨lv_sub hl [2, 1, 0] rfl, (by omega)⟩ ?_
  rintro i ls ⟨hl, hi⟩ ih5
  try dsimp only at hl hi ih5
  refine lv_iload_n hx hb dX8_closedMany_5 rfl (lv_at hl 2 rfl) ?_
  refine lv_bipush (v := (nI 40)) hx hb dX8_closedMany_6 (by decide) ?_
  refine lv_icmp_ge (tgt := 23) hx hb dX8_closedMany_8 (by decide) (fun c_8 => ?_) (fun c_8 => ?_)
  · have c_8 := (nc_le (by omega) (by omega) c_8)
    have e9 : i = 24 := by omega
    subst e9
    refine lv_iload_n hx hb dX8_closedMany_23 rfl (lv_at hl 1 rfl) ?_
    exact rd_i (congrArg nI (cl_sum hwf).symm) hx hb hr dX8_closedMany_24 hlk
  · have c_8 := (nc_nle (by omega) (by omega) c_8)
    refine lv_iload_n hx hb dX8_closedMany_11 rfl (lv_at hl 1 rfl) ?_
    refine lv_aload_n hx hb dX8_closedMany_12 rfl (lv_at hl 0 rfl) ?_
    refine lv_iload_n hx hb dX8_closedMany_13 rfl (lv_at hl 2 rfl) ?_
    refine va_iald hx hb hK hP 0 0 rfl rfl (vp_in_nI (n := (16 + i)) (by omega) (by omega)) dX8_closedMany_14 ?_
    refine ti (show (mS σ) (nI (16 + i)).toNatClampNeg = nI (σ (16 + i)) from by rw [nI_clamp (by omega)]; rfl) ?_
    refine lv_iadd hx hb dX8_closedMany_15 ?_
    refine ti (nI_add (sm (fun k => σ (16 + k)) i) (σ (16 + i))) ?_
    refine lv_istore_n (lv' := [(1, .int (nI ((sm (fun k => σ (16 + k)) i) + (σ (16 + i))))), (0, .ref sa), (2, .int (nI (16 + i)))]) hx hb dX8_closedMany_16 rfl hl (by decide) rfl (fun ls hl => ?_)
    have hl : lv_has ls 3 [(1, .int (nI (sm (fun k => σ (16 + k)) (i + 1)))), (0, .ref sa), (2, .int (nI (16 + i)))] := by rw [← show (nI ((sm (fun k => σ (16 + k)) i) + (σ (16 + i)))) = (nI (sm (fun k => σ (16 + k)) (i + 1))) from rfl]; exact hl
    refine lv_iinc (v := (nI ((16 + i) + 1))) (lv' := [(2, .int (nI ((16 + i) + 1))), (1, .int (nI (sm (fun k => σ (16 + k)) (i + 1)))), (0, .ref sa)]) hx hb dX8_closedMany_17 hl (k := 2) rfl (nI_add (16 + i) 1) (by decide) rfl (fun ls hl => ?_)
    have hl : lv_has ls 3 [(2, .int (nI (16 + (i + 1)))), (1, .int (nI (sm (fun k => σ (16 + k)) (i + 1)))), (0, .ref sa)] := by rw [← show (nI ((16 + i) + 1)) = (nI (16 + (i + 1))) from rfl]; exact hl
    refine lv_goto (tgt := 5) hx hb dX8_closedMany_20 (by decide) ?_
    exact ih5 (i + 1) ls ⟨lv_sub hl [2, 1, 0] rfl, (by omega)⟩ (by first | omega | (dsimp only; omega))
set_option maxHeartbeats 4000000 in
set_option maxRecDepth 100000 in
theorem c_X8_unlike (l : Launch) (g : va_G) (cy : Nat → ClassId) (sa : Nat) (sz : Nat) (σ : Nat → Nat) (bd : Nat) (d : Nat) (m9 : Nat) (hwf : WF bd σ) (hd : d < σ 0) (hm9 : m9 < 256) : Met l yX8_unlike (Cond.code yX8_unlike cX8_unlike 3 (some .int) :: wsL_law) ({ frames := 1, cells := 0, slots := 0, locals := 22 } : Room) (va_Pc [.ref sa, .int (nI d), .int (nI m9)] (pr g cy [aI cy sa 248 (mS σ)] sz)) (rd_Q (some (.int (nI (unl σ d m9))))) 0 0 (nF) := by
  refine mt_of (cc := cX8_unlike) (maxL := 3) (ret := (some .int)) (by decide +kernel) (Nat.le_of_ble_eq_true rfl) ?_
  intro pX eX s mX below meth cX ls A hx hb hr hml hown hts hlk hin hsz hAe hA hP hD hK hX hl
  have hl : lv_has ls 3 [(0, .ref sa), (1, .int (nI d)), (2, .int (nI m9))] := hl
  have hS : va_S A s.heap s.heap [] := va_S.rf
  have hn0 := hwf.n0
  have hn1 := hwf.n1
  have hh2 := hwf.h2
  have hdb := hwf.db hd
  have hx9 : dg σ d 0 ^^^ m9 < 2 ^ 8 := Nat.xor_lt_two_pow (by omega) (by omega)
  refine lv_aload_n hx hb dX8_unlike_0 rfl (lv_at hl 0 rfl) ?_
  refine lv_iload_n hx hb dX8_unlike_1 rfl (lv_at hl 1 rfl) ?_
  refine lv_iconst (v := (nI 0)) hx hb dX8_unlike_2 (by decide) ?_
  refine rd_call (va_runS (As := [.ref sa, .int (nI d), .int (nI 0)]) (rest := []) ⟨hx, hb, hml, hown, hts⟩ (c_X8_ofDog l g cy sa s.heap.size σ d 0 (by omega) (by omega)) ⟨(cB 3 hts wd12_23 wd1_5 wd12_21 rfl rfl (by decide +kernel) ⟨Nat.le_of_ble_eq_true rfl, Nat.le_of_ble_eq_true rfl⟩), hts _ wd12_22⟩ (ps hK hP hD hS hA hX [0] rfl rfl) rfl rfl hl.1 rfl (lv_room (Nat.le_of_ble_eq_true rfl)) dX8_unlike_3 ⟨Nat.zero_le _, Nat.zero_le _⟩) ?_
  show W _ _ _ _ _ _ _ _ _ _ _ _ _ _ _ (F0 mX 6 ls [.int (nI (dg σ d 0))])
  refine lv_iload_n hx hb dX8_unlike_6 rfl (lv_at hl 2 rfl) ?_
  refine lv_ixor hx hb dX8_unlike_7 ?_
  refine ti (nx_xor (dg σ d 0) m9) ?_
  refine rd_call (va_runS (As := [.int (nI ((dg σ d 0) ^^^ m9))]) (rest := []) ⟨hx, hb, hml, hown, hts⟩ (c_X8_bits l ((dg σ d 0) ^^^ m9) (by omega)) ⟨(cB 1 hts wd13_5 wd1_5 wd13_3 rfl rfl (by decide +kernel) ⟨Nat.le_of_ble_eq_true rfl, Nat.le_of_ble_eq_true rfl⟩), hts _ wd13_4⟩ p0 rfl rfl hl.1 rfl (lv_room (Nat.le_of_ble_eq_true rfl)) dX8_unlike_8 ⟨Nat.zero_le _, Nat.zero_le _⟩) ?_
  show W _ _ _ _ _ _ _ _ _ _ _ _ _ _ _ (F0 mX 11 ls [.int (nI (ct ((dg σ d 0) ^^^ m9).testBit 24))])
  refine ti (show (nI (ct ((dg σ d 0) ^^^ m9).testBit 24)) = (nI (unl σ d m9)) from rfl) ?_
  exact rd_i rfl hx hb hr dX8_unlike_11 hlk
set_option maxHeartbeats 4000000 in
set_option maxRecDepth 100000 in
theorem c_X8_means (l : Launch) (g : va_G) (cy : Nat → ClassId) (sa : Nat) (sz : Nat) (σ : Nat → Nat) (bd : Nat) (m9 : Nat) (h9 : Nat) (hwf : WF bd σ) (hm9 : m9 < 256) (hh9 : h9 < 2 ^ 31) : Met l yX8_means (Cond.code yX8_means cX8_means 6 (some .int) :: wsL_law) ({ frames := 2, cells := 0, slots := 0, locals := 44 } : Room) (va_Pc [.ref sa, .int (nI m9), .int (nI h9)] (pr g cy [aI cy sa 248 (mS σ)] sz)) (rd_Q (some (.int (nI (mea σ m9 h9))))) 0 0 (nF) := by
  refine mt_of (cc := cX8_means) (maxL := 6) (ret := (some .int)) (by decide +kernel) (Nat.le_of_ble_eq_true rfl) ?_
  intro pX eX s mX below meth cX ls A hx hb hr hml hown hts hlk hin hsz hAe hA hP hD hK hX hl
  have hl : lv_has ls 6 [(0, .ref sa), (1, .int (nI m9)), (2, .int (nI h9))] := hl
  have hS : va_S A s.heap s.heap [] := va_S.rf
  have hn0 := hwf.n0
  have hn1 := hwf.n1
  have hh2 := hwf.h2
  refine lv_iconst (v := (nI NN)) hx hb dX8_means_0 (by decide) ?_
  refine lv_istore_n (lv' := [(3, .int (nI NN)), (0, .ref sa), (1, .int (nI m9)), (2, .int (nI h9))]) hx hb dX8_means_1 rfl hl (by decide) rfl (fun ls hl => ?_)
  refine lv_iconst (v := (nI 0)) hx hb dX8_means_2 (by decide) ?_
  refine lv_istore (lv' := [(4, .int (nI 0)), (3, .int (nI NN)), (0, .ref sa), (1, .int (nI m9)), (2, .int (nI h9))]) hx hb dX8_means_3 hl (by decide) rfl (fun ls hl => ?_)
  have hl : lv_has ls 6 [(4, .int (nI 0)), (3, .int (nI (bst σ m9 h9 0))), (0, .ref sa), (1, .int (nI m9)), (2, .int (nI h9))] := by rw [← show (nI NN) = (nI (bst σ m9 h9 0)) from rfl]; exact hl
  refine lp_rd (σ := (Nat)) (fun x9 ls9 => lv_has ls9 6 [(0, .ref sa), (1, .int (nI m9)), (2, .int (nI h9)), (3, .int (nI (bst σ m9 h9 x9))), (4, .int (nI x9))] ∧ (x9 ≤ σ 0)) (fun x9 => σ 0 - x9) (0) ⟨lv_sub hl [2, 3, 4, 1, 0] rfl, (by omega)⟩ ?_
  rintro i ls ⟨hl, hi⟩ ih5
  try dsimp only at hl hi ih5
  refine lv_iload hx hb dX8_means_5 (lv_at hl 4 rfl) ?_
  refine lv_aload_n hx hb dX8_means_7 rfl (lv_at hl 0 rfl) ?_
  refine lv_iconst (v := (nI 0)) hx hb dX8_means_8 (by decide) ?_
  refine va_iald hx hb hK hP 0 0 rfl rfl (vp_in_nI (n := 0) (by omega) (by omega)) dX8_means_9 ?_
  refine ti (show (mS σ) (nI 0).toNatClampNeg = nI (σ 0) from by rw [nI_clamp (by omega)]; rfl) ?_
  refine lv_icmp_ge (tgt := 97) hx hb dX8_means_10 (by decide) (fun c_10 => ?_) (fun c_10 => ?_)
  · have c_10 := (nc_le (by omega) (by omega) c_10)
    have e9 : i = σ 0 := by omega
    subst e9
    have hme := bst_lt (σ := σ) (m := m9) (h := h9) (σ 0)
    have hNN : NN = 4294967295 := rfl
    have s7 : σ 7 ≤ 8 := hwf.2.2.2.2.2.1
    have u3 := unl_le (σ := σ) (d := bst σ m9 h9 (σ 0)) (m := m9)
    refine lv_iload_n hx hb dX8_means_97 rfl (lv_at hl 3 rfl) ?_
    refine lv_iconst (v := (nI NN)) hx hb dX8_means_98 (by decide) ?_
    refine lv_icmp_eq (tgt := 119) hx hb dX8_means_99 (by decide) (fun c_99 => ?_) (fun c_99 => ?_)
    · have c_99 := (nc_eq9 (by omega) (by decide) c_99)
      refine lv_iconst (v := (nI NN)) hx hb dX8_means_119 (by decide) ?_
      exact rd_i (congrArg nI (show _ = mea σ m9 h9 from (if_neg (fun z => z.1 c_99)).symm)) hx hb hr dX8_means_120 hlk
    · have c_99 := (nc_ne9 (by omega) (by decide) c_99)
      have hbi : bst σ m9 h9 (σ 0) < σ 0 := hme.resolve_left c_99
      refine lv_aload_n hx hb dX8_means_102 rfl (lv_at hl 0 rfl) ?_
      refine lv_iload_n hx hb dX8_means_103 rfl (lv_at hl 3 rfl) ?_
      refine lv_iload_n hx hb dX8_means_104 rfl (lv_at hl 1 rfl) ?_
      refine rd_call (va_runS (As := [.ref sa, .int (nI (bst σ m9 h9 (σ 0))), .int (nI m9)]) (rest := []) ⟨hx, hb, hml, hown, hts⟩ (c_X8_unlike l g cy sa s.heap.size σ bd (bst σ m9 h9 (σ 0)) m9 hwf (by omega) (by omega)) ⟨(cB 3 hts wd13_2 wd1_5 wd13_0 rfl rfl (by decide +kernel) ⟨Nat.le_of_ble_eq_true rfl, Nat.le_of_ble_eq_true rfl⟩), hts _ wd13_1⟩ (ps hK hP hD hS hA hX [0] rfl rfl) rfl rfl hl.1 rfl (lv_room (Nat.le_of_ble_eq_true rfl)) dX8_means_105 ⟨Nat.zero_le _, Nat.zero_le _⟩) ?_
      show W _ _ _ _ _ _ _ _ _ _ _ _ _ _ _ (F0 mX 108 ls [.int (nI (unl σ (bst σ m9 h9 (σ 0)) m9))])
      refine lv_aload_n hx hb dX8_means_108 rfl (lv_at hl 0 rfl) ?_
      refine lv_bipush (v := (nI 7)) hx hb dX8_means_109 (by decide) ?_
      refine va_iald hx hb hK hP 0 0 rfl rfl (vp_in_nI (n := 7) (by omega) (by omega)) dX8_means_111 ?_
      refine ti (show (mS σ) (nI 7).toNatClampNeg = nI (σ 7) from by rw [nI_clamp (by omega)]; rfl) ?_
      refine lv_icmp_gt (tgt := 119) hx hb dX8_means_112 (by decide) (fun c_112 => ?_) (fun c_112 => ?_)
      · have c_112 := (nc_lt (by omega) (by omega) c_112)
        refine lv_iconst (v := (nI NN)) hx hb dX8_means_119 (by decide) ?_
        exact rd_i (congrArg nI (show _ = mea σ m9 h9 from (if_neg (fun z => absurd z.2 (Nat.not_le.mpr c_112))).symm)) hx hb hr dX8_means_120 hlk
      · have c_112 := (nc_nlt (by omega) (by omega) c_112)
        refine lv_iload_n hx hb dX8_means_115 rfl (lv_at hl 3 rfl) ?_
        refine lv_goto (tgt := 120) hx hb dX8_means_116 (by decide) ?_
        exact rd_i (congrArg nI (show _ = mea σ m9 h9 from (if_pos ⟨c_99, c_112⟩).symm)) hx hb hr dX8_means_120 hlk
  · have c_10 := (nc_nle (by omega) (by omega) c_10)
    have hi6 : i < 6 := by omega
    have hdb := hwf.db (show i < σ 0 by omega)
    have u1 := unl_le (σ := σ) (d := i) (m := m9)
    have u2 := unl_le (σ := σ) (d := bst σ m9 h9 i) (m := m9)
    have hme := bst_lt (σ := σ) (m := m9) (h := h9) i
    have hNN : NN = 4294967295 := rfl
    refine lv_aload_n hx hb dX8_means_13 rfl (lv_at hl 0 rfl) ?_
    refine lv_iload hx hb dX8_means_14 (lv_at hl 4 rfl) ?_
    refine rd_call (va_runS (As := [.ref sa, .int (nI i)]) (rest := []) ⟨hx, hb, hml, hown, hts⟩ (c_X8_isMissing l g cy sa s.heap.size σ i (by omega) (by omega)) ⟨(cB 2 hts wd12_20 wd1_5 wd12_18 rfl rfl (by decide +kernel) ⟨Nat.le_of_ble_eq_true rfl, Nat.le_of_ble_eq_true rfl⟩), hts _ wd12_19⟩ (ps hK hP hD hS hA hX [0] rfl rfl) rfl rfl hl.1 rfl (lv_room (Nat.le_of_ble_eq_true rfl)) dX8_means_16 ⟨Nat.zero_le _, Nat.zero_le _⟩) ?_
    show W _ _ _ _ _ _ _ _ _ _ _ _ _ _ _ (F0 mX 19 ls [.int (bI (msg σ i))])
    refine lv_if_eq (tgt := 91) hx hb dX8_means_19 (by decide) (fun c_19 => ?_) (fun c_19 => ?_)
    · have c_19 := (bI_eq0.mp c_19)
      have hl : lv_has ls 6 [(0, .ref sa), (1, .int (nI m9)), (2, .int (nI h9)), (3, .int (nI (bst σ m9 h9 (i + 1)))), (4, .int (nI i))] := by rw [← show (nI (bst σ m9 h9 i)) = (nI (bst σ m9 h9 (i + 1))) from (congrArg nI (show bst σ m9 h9 (i + 1) = bst σ m9 h9 i from bst_no (Or.inl c_19)).symm)]; exact hl
      refine lv_iinc (v := (nI (i + 1))) (lv' := [(4, .int (nI (i + 1))), (0, .ref sa), (1, .int (nI m9)), (2, .int (nI h9)), (3, .int (nI (bst σ m9 h9 (i + 1))))]) hx hb dX8_means_91 hl (k := 4) rfl (nI_add i 1) (by decide) rfl (fun ls hl => ?_)
      refine lv_goto (tgt := 5) hx hb dX8_means_94 (by decide) ?_
      exact ih5 (i + 1) ls ⟨lv_sub hl [1, 2, 3, 4, 0] rfl, (by omega)⟩ (by first | omega | (dsimp only; omega))
    · have c_19 := (bI_ne0.mp c_19)
      refine lv_aload_n hx hb dX8_means_22 rfl (lv_at hl 0 rfl) ?_
      refine lv_iload hx hb dX8_means_23 (lv_at hl 4 rfl) ?_
      refine lv_iconst (v := (nI 3)) hx hb dX8_means_25 (by decide) ?_
      refine rd_call (va_runS (As := [.ref sa, .int (nI i), .int (nI 3)]) (rest := []) ⟨hx, hb, hml, hown, hts⟩ (c_X8_ofDog l g cy sa s.heap.size σ i 3 (by omega) (by omega)) ⟨(cB 3 hts wd12_23 wd1_5 wd12_21 rfl rfl (by decide +kernel) ⟨Nat.le_of_ble_eq_true rfl, Nat.le_of_ble_eq_true rfl⟩), hts _ wd12_22⟩ (ps hK hP hD hS hA hX [0] rfl rfl) rfl rfl hl.1 rfl (lv_room (Nat.le_of_ble_eq_true rfl)) dX8_means_26 ⟨Nat.zero_le _, Nat.zero_le _⟩) ?_
      show W _ _ _ _ _ _ _ _ _ _ _ _ _ _ _ (F0 mX 29 ls [.int (nI (dg σ i 3))])
      refine lv_iload_n hx hb dX8_means_29 rfl (lv_at hl 2 rfl) ?_
      refine lv_icmp_gt (tgt := 91) hx hb dX8_means_30 (by decide) (fun c_30 => ?_) (fun c_30 => ?_)
      · have c_30 := (nc_lt (by omega) (by omega) c_30)
        have hl : lv_has ls 6 [(0, .ref sa), (1, .int (nI m9)), (2, .int (nI h9)), (3, .int (nI (bst σ m9 h9 (i + 1)))), (4, .int (nI i))] := by rw [← show (nI (bst σ m9 h9 i)) = (nI (bst σ m9 h9 (i + 1))) from (congrArg nI (show bst σ m9 h9 (i + 1) = bst σ m9 h9 i from bst_no (Or.inr (Nat.not_le.mpr c_30))).symm)]; exact hl
        refine lv_iinc (v := (nI (i + 1))) (lv' := [(4, .int (nI (i + 1))), (0, .ref sa), (1, .int (nI m9)), (2, .int (nI h9)), (3, .int (nI (bst σ m9 h9 (i + 1))))]) hx hb dX8_means_91 hl (k := 4) rfl (nI_add i 1) (by decide) rfl (fun ls hl => ?_)
        refine lv_goto (tgt := 5) hx hb dX8_means_94 (by decide) ?_
        exact ih5 (i + 1) ls ⟨lv_sub hl [1, 2, 3, 4, 0] rfl, (by omega)⟩ (by first | omega | (dsimp only; omega))
      · have c_30 := (nc_nlt (by omega) (by omega) c_30)
        refine lv_iload_n hx hb dX8_means_33 rfl (lv_at hl 3 rfl) ?_
        refine lv_iconst (v := (nI NN)) hx hb dX8_means_34 (by decide) ?_
        refine lv_icmp_ne (tgt := 42) hx hb dX8_means_35 (by decide) (fun c_35 => ?_) (fun c_35 => ?_)
        · have c_35 := (nc_ne9 (by omega) (by decide) c_35)
          have hbi : bst σ m9 h9 i < i := hme.resolve_left c_35
          have hdb2 := hwf.db (show bst σ m9 h9 i < σ 0 by omega)
          refine lv_aload_n hx hb dX8_means_42 rfl (lv_at hl 0 rfl) ?_
          refine lv_iload hx hb dX8_means_43 (lv_at hl 4 rfl) ?_
          refine lv_iload_n hx hb dX8_means_45 rfl (lv_at hl 1 rfl) ?_
          refine rd_call (va_runS (As := [.ref sa, .int (nI i), .int (nI m9)]) (rest := []) ⟨hx, hb, hml, hown, hts⟩ (c_X8_unlike l g cy sa s.heap.size σ bd i m9 hwf (by omega) (by omega)) ⟨(cB 3 hts wd13_2 wd1_5 wd13_0 rfl rfl (by decide +kernel) ⟨Nat.le_of_ble_eq_true rfl, Nat.le_of_ble_eq_true rfl⟩), hts _ wd13_1⟩ (ps hK hP hD hS hA hX [0] rfl rfl) rfl rfl hl.1 rfl (lv_room (Nat.le_of_ble_eq_true rfl)) dX8_means_46 ⟨Nat.zero_le _, Nat.zero_le _⟩) ?_
          show W _ _ _ _ _ _ _ _ _ _ _ _ _ _ _ (F0 mX 49 ls [.int (nI (unl σ i m9))])
          refine lv_aload_n hx hb dX8_means_49 rfl (lv_at hl 0 rfl) ?_
          refine lv_iload_n hx hb dX8_means_50 rfl (lv_at hl 3 rfl) ?_
          refine lv_iload_n hx hb dX8_means_51 rfl (lv_at hl 1 rfl) ?_
          refine rd_call (va_runS (As := [.ref sa, .int (nI (bst σ m9 h9 i)), .int (nI m9)]) (rest := [.int (nI (unl σ i m9))]) ⟨hx, hb, hml, hown, hts⟩ (c_X8_unlike l g cy sa s.heap.size σ bd (bst σ m9 h9 i) m9 hwf (by omega) (by omega)) ⟨(cB 3 hts wd13_2 wd1_5 wd13_0 rfl rfl (by decide +kernel) ⟨Nat.le_of_ble_eq_true rfl, Nat.le_of_ble_eq_true rfl⟩), hts _ wd13_1⟩ (ps hK hP hD hS hA hX [0] rfl rfl) rfl rfl hl.1 rfl (lv_room (Nat.le_of_ble_eq_true rfl)) dX8_means_52 ⟨Nat.zero_le _, Nat.zero_le _⟩) ?_
          show W _ _ _ _ _ _ _ _ _ _ _ _ _ _ _ (F0 mX 55 ls [.int (nI (unl σ (bst σ m9 h9 i) m9)), .int (nI (unl σ i m9))])
          refine lv_isub hx hb dX8_means_55 ?_
          refine lv_istore (lv' := [(5, .int ((nI (unl σ i m9)) - (nI (unl σ (bst σ m9 h9 i) m9)))), (0, .ref sa), (1, .int (nI m9)), (2, .int (nI h9)), (3, .int (nI (bst σ m9 h9 i))), (4, .int (nI i))]) hx hb dX8_means_56 hl (by decide) rfl (fun ls hl => ?_)
          refine lv_iload hx hb dX8_means_58 (lv_at hl 0 rfl) ?_
          refine lv_if_lt (tgt := 84) hx hb dX8_means_60 (by decide) (fun c_60 => ?_) (fun c_60 => ?_)
          · skip
            have c_60 : unl σ i m9 < unl σ (bst σ m9 h9 i) m9 := sub_lt9 (by omega) (by omega) c_60
            refine lv_iload hx hb dX8_means_84 (lv_at hl 5 rfl) ?_
            refine lv_goto (tgt := 90) hx hb dX8_means_86 (by decide) ?_
            refine lv_istore_n (lv' := [(3, .int (nI i)), (5, .int ((nI (unl σ i m9)) - (nI (unl σ (bst σ m9 h9 i) m9)))), (0, .ref sa), (1, .int (nI m9)), (2, .int (nI h9)), (4, .int (nI i))]) hx hb dX8_means_90 rfl hl (by decide) rfl (fun ls hl => ?_)
            have hl : lv_has ls 6 [(3, .int (nI (bst σ m9 h9 (i + 1)))), (5, .int ((nI (unl σ i m9)) - (nI (unl σ (bst σ m9 h9 i) m9)))), (0, .ref sa), (1, .int (nI m9)), (2, .int (nI h9)), (4, .int (nI i))] := by rw [← show (nI i) = (nI (bst σ m9 h9 (i + 1))) from (congrArg nI (show bst σ m9 h9 (i + 1) = i from by rw [bst_go c_19 c_30, if_neg c_35, if_pos (Or.inl c_60)]).symm)]; exact hl
            refine lv_iinc (v := (nI (i + 1))) (lv' := [(4, .int (nI (i + 1))), (3, .int (nI (bst σ m9 h9 (i + 1)))), (5, .int ((nI (unl σ i m9)) - (nI (unl σ (bst σ m9 h9 i) m9)))), (0, .ref sa), (1, .int (nI m9)), (2, .int (nI h9))]) hx hb dX8_means_91 hl (k := 5) rfl (nI_add i 1) (by decide) rfl (fun ls hl => ?_)
            refine lv_goto (tgt := 5) hx hb dX8_means_94 (by decide) ?_
            exact ih5 (i + 1) ls ⟨lv_sub hl [3, 4, 5, 1, 0] rfl, (by omega)⟩ (by first | omega | (dsimp only; omega))
          · skip
            have c_60 : unl σ (bst σ m9 h9 i) m9 ≤ unl σ i m9 := sub_ge9 (by omega) (by omega) c_60
            refine lv_iload hx hb dX8_means_63 (lv_at hl 0 rfl) ?_
            refine lv_if_ne (tgt := 89) hx hb dX8_means_65 (by decide) (fun c_65 => ?_) (fun c_65 => ?_)
            · skip
              have c_65 : unl σ i m9 ≠ unl σ (bst σ m9 h9 i) m9 := subnz (by omega) (by omega) c_65
              refine lv_iload_n hx hb dX8_means_89 rfl (lv_at hl 4 rfl) ?_
              refine lv_istore_n (lv' := [(3, .int (nI (bst σ m9 h9 i))), (5, .int ((nI (unl σ i m9)) - (nI (unl σ (bst σ m9 h9 i) m9)))), (0, .ref sa), (1, .int (nI m9)), (2, .int (nI h9)), (4, .int (nI i))]) hx hb dX8_means_90 rfl hl (by decide) rfl (fun ls hl => ?_)
              have hl : lv_has ls 6 [(3, .int (nI (bst σ m9 h9 (i + 1)))), (5, .int ((nI (unl σ i m9)) - (nI (unl σ (bst σ m9 h9 i) m9)))), (0, .ref sa), (1, .int (nI m9)), (2, .int (nI h9)), (4, .int (nI i))] := by rw [← show (nI (bst σ m9 h9 i)) = (nI (bst σ m9 h9 (i + 1))) from (congrArg nI (show bst σ m9 h9 (i + 1) = bst σ m9 h9 i from by rw [bst_go c_19 c_30, if_neg c_35, if_neg (by omega)]).symm)]; exact hl
              refine lv_iinc (v := (nI (i + 1))) (lv' := [(4, .int (nI (i + 1))), (3, .int (nI (bst σ m9 h9 (i + 1)))), (5, .int ((nI (unl σ i m9)) - (nI (unl σ (bst σ m9 h9 i) m9)))), (0, .ref sa), (1, .int (nI m9)), (2, .int (nI h9))]) hx hb dX8_means_91 hl (k := 5) rfl (nI_add i 1) (by decide) rfl (fun ls hl => ?_)
              refine lv_goto (tgt := 5) hx hb dX8_means_94 (by decide) ?_
              exact ih5 (i + 1) ls ⟨lv_sub hl [3, 4, 5, 1, 0] rfl, (by omega)⟩ (by first | omega | (dsimp only; omega))
            · skip
              have c_65 : unl σ i m9 = unl σ (bst σ m9 h9 i) m9 := subz (by omega) (by omega) c_65
              refine lv_aload_n hx hb dX8_means_68 rfl (lv_at hl 1 rfl) ?_
              refine lv_iload hx hb dX8_means_69 (lv_at hl 5 rfl) ?_
              refine lv_iconst (v := (nI 4)) hx hb dX8_means_71 (by decide) ?_
              refine rd_call (va_runS (As := [.ref sa, .int (nI i), .int (nI 4)]) (rest := []) ⟨hx, hb, hml, hown, hts⟩ (c_X8_ofDog l g cy sa s.heap.size σ i 4 (by omega) (by omega)) ⟨(cB 3 hts wd12_23 wd1_5 wd12_21 rfl rfl (by decide +kernel) ⟨Nat.le_of_ble_eq_true rfl, Nat.le_of_ble_eq_true rfl⟩), hts _ wd12_22⟩ (ps hK hP hD hS hA hX [0] rfl rfl) rfl rfl hl.1 rfl (lv_room (Nat.le_of_ble_eq_true rfl)) dX8_means_72 ⟨Nat.zero_le _, Nat.zero_le _⟩) ?_
              show W _ _ _ _ _ _ _ _ _ _ _ _ _ _ _ (F0 mX 75 ls [.int (nI (dg σ i 4))])
              refine lv_aload_n hx hb dX8_means_75 rfl (lv_at hl 1 rfl) ?_
              refine lv_iload_n hx hb dX8_means_76 rfl (lv_at hl 4 rfl) ?_
              refine lv_iconst (v := (nI 4)) hx hb dX8_means_77 (by decide) ?_
              refine rd_call (va_runS (As := [.ref sa, .int (nI (bst σ m9 h9 i)), .int (nI 4)]) (rest := [.int (nI (dg σ i 4))]) ⟨hx, hb, hml, hown, hts⟩ (c_X8_ofDog l g cy sa s.heap.size σ (bst σ m9 h9 i) 4 (by omega) (by omega)) ⟨(cB 3 hts wd12_23 wd1_5 wd12_21 rfl rfl (by decide +kernel) ⟨Nat.le_of_ble_eq_true rfl, Nat.le_of_ble_eq_true rfl⟩), hts _ wd12_22⟩ (ps hK hP hD hS hA hX [0] rfl rfl) rfl rfl hl.1 rfl (lv_room (Nat.le_of_ble_eq_true rfl)) dX8_means_78 ⟨Nat.zero_le _, Nat.zero_le _⟩) ?_
              show W _ _ _ _ _ _ _ _ _ _ _ _ _ _ _ (F0 mX 81 ls [.int (nI (dg σ (bst σ m9 h9 i) 4)), .int (nI (dg σ i 4))])
              refine lv_icmp_le (tgt := 89) hx hb dX8_means_81 (by decide) (fun c_81 => ?_) (fun c_81 => ?_)
              · have c_81 := (nc_le (by omega) (by omega) c_81)
                refine lv_iload_n hx hb dX8_means_89 rfl (lv_at hl 4 rfl) ?_
                refine lv_istore_n (lv' := [(3, .int (nI (bst σ m9 h9 i))), (5, .int ((nI (unl σ i m9)) - (nI (unl σ (bst σ m9 h9 i) m9)))), (0, .ref sa), (1, .int (nI m9)), (2, .int (nI h9)), (4, .int (nI i))]) hx hb dX8_means_90 rfl hl (by decide) rfl (fun ls hl => ?_)
                have hl : lv_has ls 6 [(3, .int (nI (bst σ m9 h9 (i + 1)))), (5, .int ((nI (unl σ i m9)) - (nI (unl σ (bst σ m9 h9 i) m9)))), (0, .ref sa), (1, .int (nI m9)), (2, .int (nI h9)), (4, .int (nI i))] := by rw [← show (nI (bst σ m9 h9 i)) = (nI (bst σ m9 h9 (i + 1))) from (congrArg nI (show bst σ m9 h9 (i + 1) = bst σ m9 h9 i from by rw [bst_go c_19 c_30, if_neg c_35, if_neg (by omega)]).symm)]; exact hl
                refine lv_iinc (v := (nI (i + 1))) (lv' := [(4, .int (nI (i + 1))), (3, .int (nI (bst σ m9 h9 (i + 1)))), (5, .int ((nI (unl σ i m9)) - (nI (unl σ (bst σ m9 h9 i) m9)))), (0, .ref sa), (1, .int (nI m9)), (2, .int (nI h9))]) hx hb dX8_means_91 hl (k := 5) rfl (nI_add i 1) (by decide) rfl (fun ls hl => ?_)
                refine lv_goto (tgt := 5) hx hb dX8_means_94 (by decide) ?_
                exact ih5 (i + 1) ls ⟨lv_sub hl [3, 4, 5, 1, 0] rfl, (by omega)⟩ (by first | omega | (dsimp only; omega))
              · have c_81 := (nc_nle (by omega) (by omega) c_81)
                refine lv_iload hx hb dX8_means_84 (lv_at hl 5 rfl) ?_
                refine lv_goto (tgt := 90) hx hb dX8_means_86 (by decide) ?_
                refine lv_istore_n (lv' := [(3, .int (nI i)), (5, .int ((nI (unl σ i m9)) - (nI (unl σ (bst σ m9 h9 i) m9)))), (0, .ref sa), (1, .int (nI m9)), (2, .int (nI h9)), (4, .int (nI i))]) hx hb dX8_means_90 rfl hl (by decide) rfl (fun ls hl => ?_)
                have hl : lv_has ls 6 [(3, .int (nI (bst σ m9 h9 (i + 1)))), (5, .int ((nI (unl σ i m9)) - (nI (unl σ (bst σ m9 h9 i) m9)))), (0, .ref sa), (1, .int (nI m9)), (2, .int (nI h9)), (4, .int (nI i))] := by rw [← show (nI i) = (nI (bst σ m9 h9 (i + 1))) from (congrArg nI (show bst σ m9 h9 (i + 1) = i from by rw [bst_go c_19 c_30, if_neg c_35, if_pos (Or.inr ⟨c_65, c_81⟩)]).symm)]; exact hl
                refine lv_iinc (v := (nI (i + 1))) (lv' := [(4, .int (nI (i + 1))), (3, .int (nI (bst σ m9 h9 (i + 1)))), (5, .int ((nI (unl σ i m9)) - (nI (unl σ (bst σ m9 h9 i) m9)))), (0, .ref sa), (1, .int (nI m9)), (2, .int (nI h9))]) hx hb dX8_means_91 hl (k := 5) rfl (nI_add i 1) (by decide) rfl (fun ls hl => ?_)
                refine lv_goto (tgt := 5) hx hb dX8_means_94 (by decide) ?_
                exact ih5 (i + 1) ls ⟨lv_sub hl [3, 4, 5, 1, 0] rfl, (by omega)⟩ (by first | omega | (dsimp only; omega))
        · have c_35 := (nc_eq9 (by omega) (by decide) c_35)
          refine lv_iconst (v := (nI NN)) hx hb dX8_means_38 (by decide) ?_
          refine ti (show (nI NN) = (-1) from nI_NN) ?_
          refine lv_goto (tgt := 56) hx hb dX8_means_39 (by decide) ?_
          refine lv_istore (lv' := [(5, .int (-1)), (0, .ref sa), (1, .int (nI m9)), (2, .int (nI h9)), (3, .int (nI (bst σ m9 h9 i))), (4, .int (nI i))]) hx hb dX8_means_56 hl (by decide) rfl (fun ls hl => ?_)
          refine lv_iload hx hb dX8_means_58 (lv_at hl 0 rfl) ?_
          refine lv_if_lt (tgt := 84) hx hb dX8_means_60 (by decide) (fun c_60 => ?_) (fun c_60 => ?_)
          · skip
            refine lv_iload hx hb dX8_means_84 (lv_at hl 5 rfl) ?_
            refine lv_goto (tgt := 90) hx hb dX8_means_86 (by decide) ?_
            refine lv_istore_n (lv' := [(3, .int (nI i)), (5, .int (-1)), (0, .ref sa), (1, .int (nI m9)), (2, .int (nI h9)), (4, .int (nI i))]) hx hb dX8_means_90 rfl hl (by decide) rfl (fun ls hl => ?_)
            have hl : lv_has ls 6 [(3, .int (nI (bst σ m9 h9 (i + 1)))), (5, .int (-1)), (0, .ref sa), (1, .int (nI m9)), (2, .int (nI h9)), (4, .int (nI i))] := by rw [← show (nI i) = (nI (bst σ m9 h9 (i + 1))) from (congrArg nI (show bst σ m9 h9 (i + 1) = i from by rw [bst_go c_19 c_30, if_pos c_35]).symm)]; exact hl
            refine lv_iinc (v := (nI (i + 1))) (lv' := [(4, .int (nI (i + 1))), (3, .int (nI (bst σ m9 h9 (i + 1)))), (5, .int (-1)), (0, .ref sa), (1, .int (nI m9)), (2, .int (nI h9))]) hx hb dX8_means_91 hl (k := 5) rfl (nI_add i 1) (by decide) rfl (fun ls hl => ?_)
            refine lv_goto (tgt := 5) hx hb dX8_means_94 (by decide) ?_
            exact ih5 (i + 1) ls ⟨lv_sub hl [3, 4, 5, 1, 0] rfl, (by omega)⟩ (by first | omega | (dsimp only; omega))
          · skip
            exact absurd (by decide) c_60
set_option maxHeartbeats 4000000 in
set_option maxRecDepth 100000 in
theorem c_X8_reaches (l : Launch) (g : va_G) (cy : Nat → ClassId) (mo a1 a2 a3 a4 a5 a6 mw mh sa : Nat) (sz : Nat) (rf : Nat) (z : Nat) (ac : Nat) (sp : Nat) (ou : Nat) (wy : Nat → Nat) (σ : Nat → Nat) (bd : Nat) (a : Nat) (b : Nat) (mo9 : Nat) (hwy : ∀ i9, i9 < 144 → wy i9 = D σ i9) (ha : a < 12) (hb9 : b < 12) (hmo : mo9 < 2 ^ 31) : Met l yX8_reaches (Cond.code yX8_reaches cX8_reaches 5 (some .boolean) :: wsL_law) ({ frames := 0, cells := 0, slots := 0, locals := 0 } : Room) (va_Pc [.ref mo, .int (nI a), .int (nI b), .int (nI mo9)] (pr g cy [(mo, .inr (6, [.int (nI rf), .ref a1, .int (nI z), .ref a2, .ref a3, .ref a4, .int (nI ac), .ref a5, .ref a6, .ref mw, .ref mh, .int (nI sp), .int (nI ou)])), aI cy mw 144 (mS wy), aI cy sa 248 (mS σ)] sz)) (rd_Q (some (.int (bI (rch σ a b mo9))))) 0 0 (nF) := by
  refine mt_of (cc := cX8_reaches) (maxL := 5) (ret := (some .boolean)) (by decide +kernel) (Nat.le_of_ble_eq_true rfl) ?_
  intro pX eX s mX below meth cX ls A hx hb hr hml hown hts hlk hin hsz hAe hA hP hD hK hX hl
  have hl : lv_has ls 5 [(0, .ref mo), (1, .int (nI a)), (2, .int (nI b)), (3, .int (nI mo9))] := hl
  have hS : va_S A s.heap s.heap [] := va_S.rf
  have hdl := di_le (σ := σ) ha hb9
  refine lv_aload_n hx hb dX8_reaches_0 rfl (lv_at hl 0 rfl) ?_
  refine va_get (D := g) (ci := 6) (v := .ref mw) (C := RX8) (T := TX8) (N := 13) hx hb hts bgX8 hown hK hP 0 rfl rfl 9 (by decide) (hts _ wd6_2) (fun _ h9 => h9) rfl dX8_reaches_1 ?_
  refine lv_bipush (v := (nI 12)) hx hb dX8_reaches_4 (by decide) ?_
  refine lv_iload_n hx hb dX8_reaches_6 rfl (lv_at hl 1 rfl) ?_
  refine lv_imul hx hb dX8_reaches_7 ?_
  refine ti (pk_mul 12 a) ?_
  refine lv_iload_n hx hb dX8_reaches_8 rfl (lv_at hl 2 rfl) ?_
  refine lv_iadd hx hb dX8_reaches_9 ?_
  refine ti (nI_add (12 * a) b) ?_
  refine va_iald hx hb hK hP 1 0 rfl rfl (vp_in_nI (n := ((12 * a) + b)) (by omega) (by omega)) dX8_reaches_10 ?_
  refine ti (show (mS wy) (nI ((12 * a) + b)).toNatClampNeg = nI (wy ((12 * a) + b)) from by rw [nI_clamp (by omega)]; rfl) ?_
  refine ti (show (nI (wy ((12 * a) + b))) = (nI (di σ a b)) from (congrArg nI (hwy (12 * a + b) (by omega)))) ?_
  refine lv_istore (lv' := [(4, .int (nI (di σ a b))), (0, .ref mo), (1, .int (nI a)), (2, .int (nI b)), (3, .int (nI mo9))]) hx hb dX8_reaches_11 hl (by decide) rfl (fun ls hl => ?_)
  refine lv_iload hx hb dX8_reaches_13 (lv_at hl 0 rfl) ?_
  refine lv_bipush (v := (nI 99)) hx hb dX8_reaches_15 (by decide) ?_
  refine lv_icmp_ge (tgt := 30) hx hb dX8_reaches_17 (by decide) (fun c_17 => ?_) (fun c_17 => ?_)
  · have c_17 := (nc_le (by omega) (by omega) c_17)
    refine lv_iconst (v := (nI 0)) hx hb dX8_reaches_30 (by decide) ?_
    exact rd_z (by simp [rch, bI, nI_0, nI_o, Nat.not_lt.mpr c_17]) hx hb hr dX8_reaches_31 hlk
  · have c_17 := (nc_nle (by omega) (by omega) c_17)
    refine lv_iload hx hb dX8_reaches_20 (lv_at hl 0 rfl) ?_
    refine lv_iload_n hx hb dX8_reaches_22 rfl (lv_at hl 4 rfl) ?_
    refine lv_icmp_gt (tgt := 30) hx hb dX8_reaches_23 (by decide) (fun c_23 => ?_) (fun c_23 => ?_)
    · have c_23 := (nc_lt (by omega) (by omega) c_23)
      refine lv_iconst (v := (nI 0)) hx hb dX8_reaches_30 (by decide) ?_
      exact rd_z (by simp [rch, bI, nI_0, nI_o, c_17, Nat.not_le.mpr c_23]) hx hb hr dX8_reaches_31 hlk
    · have c_23 := (nc_nlt (by omega) (by omega) c_23)
      refine lv_iconst (v := (nI 1)) hx hb dX8_reaches_26 (by decide) ?_
      refine lv_goto (tgt := 31) hx hb dX8_reaches_27 (by decide) ?_
      exact rd_z (by simp [rch, bI, nI_0, nI_o, c_17, c_23]) hx hb hr dX8_reaches_31 hlk
set_option maxHeartbeats 4000000 in
set_option maxRecDepth 100000 in
theorem c_X8_isTrue (l : Launch) (g : va_G) (cy : Nat → ClassId) (mo a1 a2 a3 a4 a5 a6 mw mh sa : Nat) (sz : Nat) (rf : Nat) (z : Nat) (ac : Nat) (sp : Nat) (ou : Nat) (wy : Nat → Nat) (σ : Nat → Nat) (bd : Nat) (s9 : Nat) (hwf : WF bd σ) (hwy : ∀ i9, i9 < 144 → wy i9 = D σ i9) (hs9 : s9 < σ 1) (hk5 : sg σ s9 5 ≠ NN) : Met l yX8_isTrue (Cond.code yX8_isTrue cX8_isTrue 4 (some .boolean) :: wsL_law) ({ frames := 2, cells := 0, slots := 0, locals := 43 } : Room) (va_Pc [.ref mo, .ref sa, .int (nI s9)] (pr g cy [(mo, .inr (6, [.int (nI rf), .ref a1, .int (nI z), .ref a2, .ref a3, .ref a4, .int (nI ac), .ref a5, .ref a6, .ref mw, .ref mh, .int (nI sp), .int (nI ou)])), aI cy mw 144 (mS wy), aI cy sa 248 (mS σ)] sz)) (rd_Q (some (.int (bI (tru σ s9))))) 0 0 (nF) := by
  refine mt_of (cc := cX8_isTrue) (maxL := 4) (ret := (some .boolean)) (by decide +kernel) (Nat.le_of_ble_eq_true rfl) ?_
  intro pX eX s mX below meth cX ls A hx hb hr hml hown hts hlk hin hsz hAe hA hP hD hK hX hl
  have hl : lv_has ls 4 [(0, .ref mo), (1, .ref sa), (2, .int (nI s9))] := hl
  have hS : va_S A s.heap s.heap [] := va_S.rf
  have hn0 := hwf.n0
  have hn1 := hwf.n1
  have hh2 := hwf.h2
  have hsb := hwf.sb hs9
  have hd5 := hwf.s5 hs9 hk5
  have hdb := hwf.db hd5
  have hml9 := hwf.mean hs9 hd5 rfl
  have hp97 : dg σ (sg σ s9 5) 1 * (sg σ s9 2 - dg σ (sg σ s9 5) 3) ≤ 300000 := mul_le_of (show dg σ (sg σ s9 5) 1 ≤ 3 by omega) (show sg σ s9 2 - dg σ (sg σ s9 5) 3 ≤ 100000 by omega) (by decide)
  refine lv_aload_n hx hb dX8_isTrue_0 rfl (lv_at hl 1 rfl) ?_
  refine lv_iload_n hx hb dX8_isTrue_1 rfl (lv_at hl 2 rfl) ?_
  refine lv_iconst (v := (nI 5)) hx hb dX8_isTrue_2 (by decide) ?_
  refine rd_call (va_runS (As := [.ref sa, .int (nI s9), .int (nI 5)]) (rest := []) ⟨hx, hb, hml, hown, hts⟩ (c_X8_ofSight l g cy sa s.heap.size σ s9 5 (by omega) (by omega)) ⟨(cB 3 hts wd14_6 wd1_5 wd14_4 rfl rfl (by decide +kernel) ⟨Nat.le_of_ble_eq_true rfl, Nat.le_of_ble_eq_true rfl⟩), hts _ wd14_5⟩ (ps hK hP hD hS hA hX [2] rfl rfl) rfl rfl hl.1 rfl (lv_room (Nat.le_of_ble_eq_true rfl)) dX8_isTrue_3 ⟨Nat.zero_le _, Nat.zero_le _⟩) ?_
  show W _ _ _ _ _ _ _ _ _ _ _ _ _ _ _ (F0 mX 6 ls [.int (nI (sg σ s9 5))])
  refine lv_istore_n (lv' := [(3, .int (nI (sg σ s9 5))), (0, .ref mo), (1, .ref sa), (2, .int (nI s9))]) hx hb dX8_isTrue_6 rfl hl (by decide) rfl (fun ls hl => ?_)
  refine lv_aload_n hx hb dX8_isTrue_7 rfl (lv_at hl 2 rfl) ?_
  refine lv_iload_n hx hb dX8_isTrue_8 rfl (lv_at hl 0 rfl) ?_
  refine rd_call (va_runS (As := [.ref sa, .int (nI (sg σ s9 5))]) (rest := []) ⟨hx, hb, hml, hown, hts⟩ (c_X8_isMissing l g cy sa s.heap.size σ (sg σ s9 5) (by omega) (by omega)) ⟨(cB 2 hts wd12_20 wd1_5 wd12_18 rfl rfl (by decide +kernel) ⟨Nat.le_of_ble_eq_true rfl, Nat.le_of_ble_eq_true rfl⟩), hts _ wd12_19⟩ (ps hK hP hD hS hA hX [2] rfl rfl) rfl rfl hl.1 rfl (lv_room (Nat.le_of_ble_eq_true rfl)) dX8_isTrue_9 ⟨Nat.zero_le _, Nat.zero_le _⟩) ?_
  show W _ _ _ _ _ _ _ _ _ _ _ _ _ _ _ (F0 mX 12 ls [.int (bI (msg σ (sg σ s9 5)))])
  refine lv_if_eq (tgt := 54) hx hb dX8_isTrue_12 (by decide) (fun c_12 => ?_) (fun c_12 => ?_)
  · have c_12 := (bI_eq0.mp c_12)
    refine lv_aload_n hx hb dX8_isTrue_54 rfl (lv_at hl 2 rfl) ?_
    refine lv_iload_n hx hb dX8_isTrue_55 rfl (lv_at hl 3 rfl) ?_
    refine lv_bipush (v := (nI 6)) hx hb dX8_isTrue_56 (by decide) ?_
    refine rd_call (va_runS (As := [.ref sa, .int (nI s9), .int (nI 6)]) (rest := []) ⟨hx, hb, hml, hown, hts⟩ (c_X8_ofSight l g cy sa s.heap.size σ s9 6 (by omega) (by omega)) ⟨(cB 3 hts wd14_6 wd1_5 wd14_4 rfl rfl (by decide +kernel) ⟨Nat.le_of_ble_eq_true rfl, Nat.le_of_ble_eq_true rfl⟩), hts _ wd14_5⟩ (ps hK hP hD hS hA hX [2] rfl rfl) rfl rfl hl.1 rfl (lv_room (Nat.le_of_ble_eq_true rfl)) dX8_isTrue_58 ⟨Nat.zero_le _, Nat.zero_le _⟩) ?_
    show W _ _ _ _ _ _ _ _ _ _ _ _ _ _ _ (F0 mX 61 ls [.int (nI (sg σ s9 6))])
    refine lv_iconst (v := (nI 1)) hx hb dX8_isTrue_61 (by decide) ?_
    refine lv_icmp_ne (tgt := 69) hx hb dX8_isTrue_62 (by decide) (fun c_62 => ?_) (fun c_62 => ?_)
    · have c_62 := (nc_ne9 (by omega) (by omega) c_62)
      refine lv_iconst (v := (nI 0)) hx hb dX8_isTrue_69 (by decide) ?_
      exact rd_z (by rw [show tru σ s9 = decide (sg σ s9 6 = 1) from if_neg (by rw [c_12]; decide)]; simp [c_62, bI, nI_0, nI_o]) hx hb hr dX8_isTrue_70 hlk
    · have c_62 := (nc_eq9 (by omega) (by omega) c_62)
      refine lv_iconst (v := (nI 1)) hx hb dX8_isTrue_65 (by decide) ?_
      refine lv_goto (tgt := 70) hx hb dX8_isTrue_66 (by decide) ?_
      exact rd_z (by rw [show tru σ s9 = decide (sg σ s9 6 = 1) from if_neg (by rw [c_12]; decide)]; simp [c_62, bI, nI_0, nI_o]) hx hb hr dX8_isTrue_70 hlk
  · have c_12 := (bI_ne0.mp c_12)
    refine lv_aload_n hx hb dX8_isTrue_15 rfl (lv_at hl 1 rfl) ?_
    refine lv_aload_n hx hb dX8_isTrue_16 rfl (lv_at hl 2 rfl) ?_
    refine lv_iload_n hx hb dX8_isTrue_17 rfl (lv_at hl 0 rfl) ?_
    refine lv_iconst (v := (nI 2)) hx hb dX8_isTrue_18 (by decide) ?_
    refine rd_call (va_runS (As := [.ref sa, .int (nI (sg σ s9 5)), .int (nI 2)]) (rest := [.ref mo]) ⟨hx, hb, hml, hown, hts⟩ (c_X8_ofDog l g cy sa s.heap.size σ (sg σ s9 5) 2 (by omega) (by omega)) ⟨(cB 3 hts wd12_23 wd1_5 wd12_21 rfl rfl (by decide +kernel) ⟨Nat.le_of_ble_eq_true rfl, Nat.le_of_ble_eq_true rfl⟩), hts _ wd12_22⟩ (ps hK hP hD hS hA hX [2] rfl rfl) rfl rfl hl.1 rfl (lv_room (Nat.le_of_ble_eq_true rfl)) dX8_isTrue_19 ⟨Nat.zero_le _, Nat.zero_le _⟩) ?_
    show W _ _ _ _ _ _ _ _ _ _ _ _ _ _ _ (F0 mX 22 ls [.int (nI (dg σ (sg σ s9 5) 2)), .ref mo])
    refine lv_aload_n hx hb dX8_isTrue_22 rfl (lv_at hl 2 rfl) ?_
    refine lv_iload_n hx hb dX8_isTrue_23 rfl (lv_at hl 3 rfl) ?_
    refine lv_iconst (v := (nI 1)) hx hb dX8_isTrue_24 (by decide) ?_
    refine rd_call (va_runS (As := [.ref sa, .int (nI s9), .int (nI 1)]) (rest := [.int (nI (dg σ (sg σ s9 5) 2)), .ref mo]) ⟨hx, hb, hml, hown, hts⟩ (c_X8_ofSight l g cy sa s.heap.size σ s9 1 (by omega) (by omega)) ⟨(cB 3 hts wd14_6 wd1_5 wd14_4 rfl rfl (by decide +kernel) ⟨Nat.le_of_ble_eq_true rfl, Nat.le_of_ble_eq_true rfl⟩), hts _ wd14_5⟩ (ps hK hP hD hS hA hX [2] rfl rfl) rfl rfl hl.1 rfl (lv_room (Nat.le_of_ble_eq_true rfl)) dX8_isTrue_25 ⟨Nat.zero_le _, Nat.zero_le _⟩) ?_
    show W _ _ _ _ _ _ _ _ _ _ _ _ _ _ _ (F0 mX 28 ls [.int (nI (sg σ s9 1)), .int (nI (dg σ (sg σ s9 5) 2)), .ref mo])
    refine lv_aload_n hx hb dX8_isTrue_28 rfl (lv_at hl 2 rfl) ?_
    refine lv_iload_n hx hb dX8_isTrue_29 rfl (lv_at hl 0 rfl) ?_
    refine lv_iconst (v := (nI 1)) hx hb dX8_isTrue_30 (by decide) ?_
    refine rd_call (va_runS (As := [.ref sa, .int (nI (sg σ s9 5)), .int (nI 1)]) (rest := [.int (nI (sg σ s9 1)), .int (nI (dg σ (sg σ s9 5) 2)), .ref mo]) ⟨hx, hb, hml, hown, hts⟩ (c_X8_ofDog l g cy sa s.heap.size σ (sg σ s9 5) 1 (by omega) (by omega)) ⟨(cB 3 hts wd12_23 wd1_5 wd12_21 rfl rfl (by decide +kernel) ⟨Nat.le_of_ble_eq_true rfl, Nat.le_of_ble_eq_true rfl⟩), hts _ wd12_22⟩ (ps hK hP hD hS hA hX [2] rfl rfl) rfl rfl hl.1 rfl (lv_room (Nat.le_of_ble_eq_true rfl)) dX8_isTrue_31 ⟨Nat.zero_le _, Nat.zero_le _⟩) ?_
    show W _ _ _ _ _ _ _ _ _ _ _ _ _ _ _ (F0 mX 34 ls [.int (nI (dg σ (sg σ s9 5) 1)), .int (nI (sg σ s9 1)), .int (nI (dg σ (sg σ s9 5) 2)), .ref mo])
    refine lv_aload_n hx hb dX8_isTrue_34 rfl (lv_at hl 2 rfl) ?_
    refine lv_iload_n hx hb dX8_isTrue_35 rfl (lv_at hl 3 rfl) ?_
    refine lv_iconst (v := (nI 2)) hx hb dX8_isTrue_36 (by decide) ?_
    refine rd_call (va_runS (As := [.ref sa, .int (nI s9), .int (nI 2)]) (rest := [.int (nI (dg σ (sg σ s9 5) 1)), .int (nI (sg σ s9 1)), .int (nI (dg σ (sg σ s9 5) 2)), .ref mo]) ⟨hx, hb, hml, hown, hts⟩ (c_X8_ofSight l g cy sa s.heap.size σ s9 2 (by omega) (by omega)) ⟨(cB 3 hts wd14_6 wd1_5 wd14_4 rfl rfl (by decide +kernel) ⟨Nat.le_of_ble_eq_true rfl, Nat.le_of_ble_eq_true rfl⟩), hts _ wd14_5⟩ (ps hK hP hD hS hA hX [2] rfl rfl) rfl rfl hl.1 rfl (lv_room (Nat.le_of_ble_eq_true rfl)) dX8_isTrue_37 ⟨Nat.zero_le _, Nat.zero_le _⟩) ?_
    show W _ _ _ _ _ _ _ _ _ _ _ _ _ _ _ (F0 mX 40 ls [.int (nI (sg σ s9 2)), .int (nI (dg σ (sg σ s9 5) 1)), .int (nI (sg σ s9 1)), .int (nI (dg σ (sg σ s9 5) 2)), .ref mo])
    refine lv_aload_n hx hb dX8_isTrue_40 rfl (lv_at hl 2 rfl) ?_
    refine lv_iload_n hx hb dX8_isTrue_41 rfl (lv_at hl 0 rfl) ?_
    refine lv_iconst (v := (nI 3)) hx hb dX8_isTrue_42 (by decide) ?_
    refine rd_call (va_runS (As := [.ref sa, .int (nI (sg σ s9 5)), .int (nI 3)]) (rest := [.int (nI (sg σ s9 2)), .int (nI (dg σ (sg σ s9 5) 1)), .int (nI (sg σ s9 1)), .int (nI (dg σ (sg σ s9 5) 2)), .ref mo]) ⟨hx, hb, hml, hown, hts⟩ (c_X8_ofDog l g cy sa s.heap.size σ (sg σ s9 5) 3 (by omega) (by omega)) ⟨(cB 3 hts wd12_23 wd1_5 wd12_21 rfl rfl (by decide +kernel) ⟨Nat.le_of_ble_eq_true rfl, Nat.le_of_ble_eq_true rfl⟩), hts _ wd12_22⟩ (ps hK hP hD hS hA hX [2] rfl rfl) rfl rfl hl.1 rfl (lv_room (Nat.le_of_ble_eq_true rfl)) dX8_isTrue_43 ⟨Nat.zero_le _, Nat.zero_le _⟩) ?_
    show W _ _ _ _ _ _ _ _ _ _ _ _ _ _ _ (F0 mX 46 ls [.int (nI (dg σ (sg σ s9 5) 3)), .int (nI (sg σ s9 2)), .int (nI (dg σ (sg σ s9 5) 1)), .int (nI (sg σ s9 1)), .int (nI (dg σ (sg σ s9 5) 2)), .ref mo])
    refine lv_isub hx hb dX8_isTrue_46 ?_
    refine ti (show ((nI (sg σ s9 2)) - (nI (dg σ (sg σ s9 5) 3))) = (nI (sg σ s9 2 - dg σ (sg σ s9 5) 3)) from (pk_sub hml9)) ?_
    refine lv_imul hx hb dX8_isTrue_47 ?_
    refine ti (pk_mul (dg σ (sg σ s9 5) 1) (sg σ s9 2 - dg σ (sg σ s9 5) 3)) ?_
    refine rd_call (va_runV (As := [.int (nI (dg σ (sg σ s9 5) 2)), .int (nI (sg σ s9 1)), .int (nI ((dg σ (sg σ s9 5) 1) * (sg σ s9 2 - dg σ (sg σ s9 5) 3)))]) (rest := []) ⟨hx, hb, hml, hown, hts⟩ (c_X8_reaches l g cy mo a1 a2 a3 a4 a5 a6 mw mh sa s.heap.size rf z ac sp ou wy σ bd (dg σ (sg σ s9 5) 2) (sg σ s9 1) ((dg σ (sg σ s9 5) 1) * (sg σ s9 2 - dg σ (sg σ s9 5) 3)) hwy (by omega) (by omega) (by omega)) ⟨(cB 3 hts wd14_18 wd1_5 wd14_15 rfl rfl (by decide +kernel) ⟨Nat.le_of_ble_eq_true rfl, Nat.le_of_ble_eq_true rfl⟩), hts _ wd14_16, hts _ wd14_17⟩ (pv hK hP hD hS hA hX [0, 1, 2] rfl rfl 6 0 rfl rfl) rfl rfl hl.1 rfl (lv_room (Nat.le_of_ble_eq_true rfl)) dX8_isTrue_48 ⟨Nat.zero_le _, Nat.zero_le _⟩) ?_
    show W _ _ _ _ _ _ _ _ _ _ _ _ _ _ _ (F0 mX 51 ls [.int (bI (rch σ (dg σ (sg σ s9 5) 2) (sg σ s9 1) ((dg σ (sg σ s9 5) 1) * (sg σ s9 2 - dg σ (sg σ s9 5) 3))))])
    refine ti (show (bI (rch σ (dg σ (sg σ s9 5) 2) (sg σ s9 1) ((dg σ (sg σ s9 5) 1) * (sg σ s9 2 - dg σ (sg σ s9 5) 3)))) = (bI (tru σ s9)) from (congrArg bI (if_pos c_12).symm)) ?_
    refine lv_goto (tgt := 70) hx hb dX8_isTrue_51 (by decide) ?_
    exact rd_z rfl hx hb hr dX8_isTrue_70 hlk
set_option maxHeartbeats 4000000 in
set_option maxRecDepth 100000 in
theorem c_X8_fits (l : Launch) (g : va_G) (cy : Nat → ClassId) (mo a1 a2 a3 a4 a5 a6 mw mh sa : Nat) (sz : Nat) (rf : Nat) (z : Nat) (ac : Nat) (sp : Nat) (ou : Nat) (wy : Nat → Nat) (σ : Nat → Nat) (bd : Nat) (s9 : Nat) (o : Nat) (hwf : WF bd σ) (hwy : ∀ i9, i9 < 144 → wy i9 = D σ i9) (hs9 : s9 < σ 1) (hk5 : sg σ s9 5 ≠ NN) (ho : o < σ 1) : Met l yX8_fits (Cond.code yX8_fits cX8_fits 5 (some .boolean) :: wsL_law) ({ frames := 1, cells := 0, slots := 0, locals := 24 } : Room) (va_Pc [.ref mo, .ref sa, .int (nI s9), .int (nI o)] (pr g cy [(mo, .inr (6, [.int (nI rf), .ref a1, .int (nI z), .ref a2, .ref a3, .ref a4, .int (nI ac), .ref a5, .ref a6, .ref mw, .ref mh, .int (nI sp), .int (nI ou)])), aI cy mw 144 (mS wy), aI cy sa 248 (mS σ)] sz)) (rd_Q (some (.int (bI (fit σ s9 o))))) 0 0 (nF) := by
  refine mt_of (cc := cX8_fits) (maxL := 5) (ret := (some .boolean)) (by decide +kernel) (Nat.le_of_ble_eq_true rfl) ?_
  intro pX eX s mX below meth cX ls A hx hb hr hml hown hts hlk hin hsz hAe hA hP hD hK hX hl
  have hl : lv_has ls 5 [(0, .ref mo), (1, .ref sa), (2, .int (nI s9)), (3, .int (nI o))] := hl
  have hS : va_S A s.heap s.heap [] := va_S.rf
  have hn0 := hwf.n0
  have hn1 := hwf.n1
  have hh2 := hwf.h2
  have hsb := hwf.sb hs9
  have hd5 := hwf.s5 hs9 hk5
  have hdb := hwf.db hd5
  have hml9 := hwf.mean hs9 hd5 rfl
  have hp97 : dg σ (sg σ s9 5) 1 * (sg σ s9 2 - dg σ (sg σ s9 5) 3) ≤ 300000 := mul_le_of (show dg σ (sg σ s9 5) 1 ≤ 3 by omega) (show sg σ s9 2 - dg σ (sg σ s9 5) 3 ≤ 100000 by omega) (by decide)
  have hob := hwf.sb ho
  have had : ad (sg σ s9 2) (sg σ o 2) ≤ 100000 := by unfold ad; split <;> omega
  have hpa : dg σ (sg σ s9 5) 1 * ad (sg σ s9 2) (sg σ o 2) ≤ 300000 := mul_le_of (show dg σ (sg σ s9 5) 1 ≤ 3 by omega) had (by decide)
  refine lv_aload_n hx hb dX8_fits_0 rfl (lv_at hl 1 rfl) ?_
  refine lv_iload_n hx hb dX8_fits_1 rfl (lv_at hl 2 rfl) ?_
  refine lv_iconst (v := (nI 2)) hx hb dX8_fits_2 (by decide) ?_
  refine rd_call (va_runS (As := [.ref sa, .int (nI s9), .int (nI 2)]) (rest := []) ⟨hx, hb, hml, hown, hts⟩ (c_X8_ofSight l g cy sa s.heap.size σ s9 2 (by omega) (by omega)) ⟨(cB 3 hts wd14_6 wd1_5 wd14_4 rfl rfl (by decide +kernel) ⟨Nat.le_of_ble_eq_true rfl, Nat.le_of_ble_eq_true rfl⟩), hts _ wd14_5⟩ (ps hK hP hD hS hA hX [2] rfl rfl) rfl rfl hl.1 rfl (lv_room (Nat.le_of_ble_eq_true rfl)) dX8_fits_3 ⟨Nat.zero_le _, Nat.zero_le _⟩) ?_
  show W _ _ _ _ _ _ _ _ _ _ _ _ _ _ _ (F0 mX 6 ls [.int (nI (sg σ s9 2))])
  refine lv_aload_n hx hb dX8_fits_6 rfl (lv_at hl 1 rfl) ?_
  refine lv_iload_n hx hb dX8_fits_7 rfl (lv_at hl 3 rfl) ?_
  refine lv_iconst (v := (nI 2)) hx hb dX8_fits_8 (by decide) ?_
  refine rd_call (va_runS (As := [.ref sa, .int (nI o), .int (nI 2)]) (rest := [.int (nI (sg σ s9 2))]) ⟨hx, hb, hml, hown, hts⟩ (c_X8_ofSight l g cy sa s.heap.size σ o 2 (by omega) (by omega)) ⟨(cB 3 hts wd14_6 wd1_5 wd14_4 rfl rfl (by decide +kernel) ⟨Nat.le_of_ble_eq_true rfl, Nat.le_of_ble_eq_true rfl⟩), hts _ wd14_5⟩ (ps hK hP hD hS hA hX [2] rfl rfl) rfl rfl hl.1 rfl (lv_room (Nat.le_of_ble_eq_true rfl)) dX8_fits_9 ⟨Nat.zero_le _, Nat.zero_le _⟩) ?_
  show W _ _ _ _ _ _ _ _ _ _ _ _ _ _ _ (F0 mX 12 ls [.int (nI (sg σ o 2)), .int (nI (sg σ s9 2))])
  refine lv_isub hx hb dX8_fits_12 ?_
  refine lv_istore (lv' := [(4, .int ((nI (sg σ s9 2)) - (nI (sg σ o 2)))), (0, .ref mo), (1, .ref sa), (2, .int (nI s9)), (3, .int (nI o))]) hx hb dX8_fits_13 hl (by decide) rfl (fun ls hl => ?_)
  refine lv_aload_n hx hb dX8_fits_15 rfl (lv_at hl 1 rfl) ?_
  refine lv_aload_n hx hb dX8_fits_16 rfl (lv_at hl 2 rfl) ?_
  refine lv_iload_n hx hb dX8_fits_17 rfl (lv_at hl 3 rfl) ?_
  refine lv_iconst (v := (nI 1)) hx hb dX8_fits_18 (by decide) ?_
  refine rd_call (va_runS (As := [.ref sa, .int (nI s9), .int (nI 1)]) (rest := [.ref mo]) ⟨hx, hb, hml, hown, hts⟩ (c_X8_ofSight l g cy sa s.heap.size σ s9 1 (by omega) (by omega)) ⟨(cB 3 hts wd14_6 wd1_5 wd14_4 rfl rfl (by decide +kernel) ⟨Nat.le_of_ble_eq_true rfl, Nat.le_of_ble_eq_true rfl⟩), hts _ wd14_5⟩ (ps hK hP hD hS hA hX [2] rfl rfl) rfl rfl hl.1 rfl (lv_room (Nat.le_of_ble_eq_true rfl)) dX8_fits_19 ⟨Nat.zero_le _, Nat.zero_le _⟩) ?_
  show W _ _ _ _ _ _ _ _ _ _ _ _ _ _ _ (F0 mX 22 ls [.int (nI (sg σ s9 1)), .ref mo])
  refine lv_aload_n hx hb dX8_fits_22 rfl (lv_at hl 2 rfl) ?_
  refine lv_iload_n hx hb dX8_fits_23 rfl (lv_at hl 4 rfl) ?_
  refine lv_iconst (v := (nI 1)) hx hb dX8_fits_24 (by decide) ?_
  refine rd_call (va_runS (As := [.ref sa, .int (nI o), .int (nI 1)]) (rest := [.int (nI (sg σ s9 1)), .ref mo]) ⟨hx, hb, hml, hown, hts⟩ (c_X8_ofSight l g cy sa s.heap.size σ o 1 (by omega) (by omega)) ⟨(cB 3 hts wd14_6 wd1_5 wd14_4 rfl rfl (by decide +kernel) ⟨Nat.le_of_ble_eq_true rfl, Nat.le_of_ble_eq_true rfl⟩), hts _ wd14_5⟩ (ps hK hP hD hS hA hX [2] rfl rfl) rfl rfl hl.1 rfl (lv_room (Nat.le_of_ble_eq_true rfl)) dX8_fits_25 ⟨Nat.zero_le _, Nat.zero_le _⟩) ?_
  show W _ _ _ _ _ _ _ _ _ _ _ _ _ _ _ (F0 mX 28 ls [.int (nI (sg σ o 1)), .int (nI (sg σ s9 1)), .ref mo])
  refine lv_aload_n hx hb dX8_fits_28 rfl (lv_at hl 2 rfl) ?_
  refine lv_aload_n hx hb dX8_fits_29 rfl (lv_at hl 2 rfl) ?_
  refine lv_iload_n hx hb dX8_fits_30 rfl (lv_at hl 3 rfl) ?_
  refine lv_iconst (v := (nI 5)) hx hb dX8_fits_31 (by decide) ?_
  refine rd_call (va_runS (As := [.ref sa, .int (nI s9), .int (nI 5)]) (rest := [.ref sa, .int (nI (sg σ o 1)), .int (nI (sg σ s9 1)), .ref mo]) ⟨hx, hb, hml, hown, hts⟩ (c_X8_ofSight l g cy sa s.heap.size σ s9 5 (by omega) (by omega)) ⟨(cB 3 hts wd14_6 wd1_5 wd14_4 rfl rfl (by decide +kernel) ⟨Nat.le_of_ble_eq_true rfl, Nat.le_of_ble_eq_true rfl⟩), hts _ wd14_5⟩ (ps hK hP hD hS hA hX [2] rfl rfl) rfl rfl hl.1 rfl (lv_room (Nat.le_of_ble_eq_true rfl)) dX8_fits_32 ⟨Nat.zero_le _, Nat.zero_le _⟩) ?_
  show W _ _ _ _ _ _ _ _ _ _ _ _ _ _ _ (F0 mX 35 ls [.int (nI (sg σ s9 5)), .ref sa, .int (nI (sg σ o 1)), .int (nI (sg σ s9 1)), .ref mo])
  refine lv_iconst (v := (nI 1)) hx hb dX8_fits_35 (by decide) ?_
  refine rd_call (va_runS (As := [.ref sa, .int (nI (sg σ s9 5)), .int (nI 1)]) (rest := [.int (nI (sg σ o 1)), .int (nI (sg σ s9 1)), .ref mo]) ⟨hx, hb, hml, hown, hts⟩ (c_X8_ofDog l g cy sa s.heap.size σ (sg σ s9 5) 1 (by omega) (by omega)) ⟨(cB 3 hts wd12_23 wd1_5 wd12_21 rfl rfl (by decide +kernel) ⟨Nat.le_of_ble_eq_true rfl, Nat.le_of_ble_eq_true rfl⟩), hts _ wd12_22⟩ (ps hK hP hD hS hA hX [2] rfl rfl) rfl rfl hl.1 rfl (lv_room (Nat.le_of_ble_eq_true rfl)) dX8_fits_36 ⟨Nat.zero_le _, Nat.zero_le _⟩) ?_
  show W _ _ _ _ _ _ _ _ _ _ _ _ _ _ _ (F0 mX 39 ls [.int (nI (dg σ (sg σ s9 5) 1)), .int (nI (sg σ o 1)), .int (nI (sg σ s9 1)), .ref mo])
  refine jn_i (pcj := 52) (ls := ls) (st := [.int (nI (dg σ (sg σ s9 5) 1)), .int (nI (sg σ o 1)), .int (nI (sg σ s9 1)), .ref mo]) (fun v9 => v9 = (nI (ad (sg σ s9 2) (sg σ o 2)))) ?_ (fun jn52 => ?_)
  · intro v9 hv9
    subst hv9
    refine lv_imul hx hb dX8_fits_52 ?_
    refine ti (pk_mul (dg σ (sg σ s9 5) 1) (ad (sg σ s9 2) (sg σ o 2))) ?_
    refine rd_call (va_runV (As := [.int (nI (sg σ s9 1)), .int (nI (sg σ o 1)), .int (nI ((dg σ (sg σ s9 5) 1) * (ad (sg σ s9 2) (sg σ o 2))))]) (rest := []) ⟨hx, hb, hml, hown, hts⟩ (c_X8_reaches l g cy mo a1 a2 a3 a4 a5 a6 mw mh sa s.heap.size rf z ac sp ou wy σ bd (sg σ s9 1) (sg σ o 1) ((dg σ (sg σ s9 5) 1) * (ad (sg σ s9 2) (sg σ o 2))) hwy (by omega) (by omega) (by omega)) ⟨(cB 3 hts wd14_18 wd1_5 wd14_15 rfl rfl (by decide +kernel) ⟨Nat.le_of_ble_eq_true rfl, Nat.le_of_ble_eq_true rfl⟩), hts _ wd14_16, hts _ wd14_17⟩ (pv hK hP hD hS hA hX [0, 1, 2] rfl rfl 6 0 rfl rfl) rfl rfl hl.1 rfl (lv_room (Nat.le_of_ble_eq_true rfl)) dX8_fits_53 ⟨Nat.zero_le _, Nat.zero_le _⟩) ?_
    show W _ _ _ _ _ _ _ _ _ _ _ _ _ _ _ (F0 mX 56 ls [.int (bI (rch σ (sg σ s9 1) (sg σ o 1) ((dg σ (sg σ s9 5) 1) * (ad (sg σ s9 2) (sg σ o 2)))))])
    exact rd_z rfl hx hb hr dX8_fits_56 hlk
  · skip
    refine lv_iload hx hb dX8_fits_39 (lv_at hl 0 rfl) ?_
    refine lv_if_ge (tgt := 50) hx hb dX8_fits_41 (by decide) (fun c_41 => ?_) (fun c_41 => ?_)
    · skip
      refine lv_iload hx hb dX8_fits_50 (lv_at hl 0 rfl) ?_
      exact jn52 _ (by rw [← abs_ad (by omega) (by omega), if_pos c_41])
    · skip
      refine lv_iload hx hb dX8_fits_44 (lv_at hl 0 rfl) ?_
      refine lv_ineg hx hb dX8_fits_46 ?_
      refine lv_goto (tgt := 52) hx hb dX8_fits_47 (by decide) ?_
      exact jn52 _ (by rw [← abs_ad (by omega) (by omega), if_neg c_41]; exact (ineg9 _).symm)
set_option maxHeartbeats 4000000 in
set_option maxRecDepth 100000 in
theorem c_X8_isFraud (l : Launch) (g : va_G) (cy : Nat → ClassId) (mo a1 a2 a3 a4 a5 a6 mw mh sa : Nat) (sz : Nat) (rf : Nat) (z : Nat) (ac : Nat) (sp : Nat) (ou : Nat) (wy : Nat → Nat) (σ : Nat → Nat) (bd : Nat) (s9 : Nat) (hwf : WF bd σ) (hwy : ∀ i9, i9 < 144 → wy i9 = D σ i9) (hs9 : s9 < σ 1) : Met l yX8_isFraud (Cond.code yX8_isFraud cX8_isFraud 7 (some .boolean) :: wsL_law) ({ frames := 3, cells := 0, slots := 0, locals := 66 } : Room) (va_Pc [.ref mo, .ref sa, .int (nI s9)] (pr g cy [(mo, .inr (6, [.int (nI rf), .ref a1, .int (nI z), .ref a2, .ref a3, .ref a4, .int (nI ac), .ref a5, .ref a6, .ref mw, .ref mh, .int (nI sp), .int (nI ou)])), aI cy mw 144 (mS wy), aI cy sa 248 (mS σ)] sz)) (rd_Q (some (.int (bI (frd σ s9))))) 0 0 (nF) := by
  refine mt_of (cc := cX8_isFraud) (maxL := 7) (ret := (some .boolean)) (by decide +kernel) (Nat.le_of_ble_eq_true rfl) ?_
  intro pX eX s mX below meth cX ls A hx hb hr hml hown hts hlk hin hsz hAe hA hP hD hK hX hl
  have hl : lv_has ls 7 [(0, .ref mo), (1, .ref sa), (2, .int (nI s9))] := hl
  have hS : va_S A s.heap s.heap [] := va_S.rf
  have hn0 := hwf.n0
  have hn1 := hwf.n1
  have hh2 := hwf.h2
  have hsb := hwf.sb hs9
  have hNN : NN = 4294967295 := rfl
  refine lv_aload_n hx hb dX8_isFraud_0 rfl (lv_at hl 1 rfl) ?_
  refine lv_iload_n hx hb dX8_isFraud_1 rfl (lv_at hl 2 rfl) ?_
  refine lv_iconst (v := (nI 5)) hx hb dX8_isFraud_2 (by decide) ?_
  refine rd_call (va_runS (As := [.ref sa, .int (nI s9), .int (nI 5)]) (rest := []) ⟨hx, hb, hml, hown, hts⟩ (c_X8_ofSight l g cy sa s.heap.size σ s9 5 (by omega) (by omega)) ⟨(cB 3 hts wd14_6 wd1_5 wd14_4 rfl rfl (by decide +kernel) ⟨Nat.le_of_ble_eq_true rfl, Nat.le_of_ble_eq_true rfl⟩), hts _ wd14_5⟩ (ps hK hP hD hS hA hX [2] rfl rfl) rfl rfl hl.1 rfl (lv_room (Nat.le_of_ble_eq_true rfl)) dX8_isFraud_3 ⟨Nat.zero_le _, Nat.zero_le _⟩) ?_
  show W _ _ _ _ _ _ _ _ _ _ _ _ _ _ _ (F0 mX 6 ls [.int (nI (sg σ s9 5))])
  refine lv_istore_n (lv' := [(3, .int (nI (sg σ s9 5))), (0, .ref mo), (1, .ref sa), (2, .int (nI s9))]) hx hb dX8_isFraud_6 rfl hl (by decide) rfl (fun ls hl => ?_)
  refine lv_iload_n hx hb dX8_isFraud_7 rfl (lv_at hl 0 rfl) ?_
  refine lv_iconst (v := (nI NN)) hx hb dX8_isFraud_8 (by decide) ?_
  refine lv_icmp_eq (tgt := 20) hx hb dX8_isFraud_9 (by decide) (fun c_9 => ?_) (fun c_9 => ?_)
  · have c_9 := (nc_eq9 (by omega) (by decide) c_9)
    refine lv_iload_n hx hb dX8_isFraud_20 rfl (lv_at hl 0 rfl) ?_
    refine lv_iconst (v := (nI NN)) hx hb dX8_isFraud_21 (by decide) ?_
    refine lv_icmp_eq (tgt := 40) hx hb dX8_isFraud_22 (by decide) (fun c_22 => ?_) (fun c_22 => ?_)
    · have c_22 := (nc_eq9 (by omega) (by decide) c_22)
      refine lv_iconst (v := (nI 0)) hx hb dX8_isFraud_40 (by decide) ?_
      exact rd_z (by rw [show frd σ s9 = false from if_pos c_9]; rfl) hx hb hr dX8_isFraud_41 hlk
    · have c_22 := (nc_ne9 (by omega) (by decide) c_22)
      exact absurd c_9 c_22
  · have c_9 := (nc_ne9 (by omega) (by decide) c_9)
    have hk5 : sg σ s9 5 ≠ NN := c_9
    have hd5 := hwf.s5 hs9 hk5
    have hdb := hwf.db hd5
    refine lv_aload_n hx hb dX8_isFraud_12 rfl (lv_at hl 2 rfl) ?_
    refine lv_iload_n hx hb dX8_isFraud_13 rfl (lv_at hl 0 rfl) ?_
    refine rd_call (va_runS (As := [.ref sa, .int (nI (sg σ s9 5))]) (rest := []) ⟨hx, hb, hml, hown, hts⟩ (c_X8_isMissing l g cy sa s.heap.size σ (sg σ s9 5) (by omega) (by omega)) ⟨(cB 2 hts wd12_20 wd1_5 wd12_18 rfl rfl (by decide +kernel) ⟨Nat.le_of_ble_eq_true rfl, Nat.le_of_ble_eq_true rfl⟩), hts _ wd12_19⟩ (ps hK hP hD hS hA hX [2] rfl rfl) rfl rfl hl.1 rfl (lv_room (Nat.le_of_ble_eq_true rfl)) dX8_isFraud_14 ⟨Nat.zero_le _, Nat.zero_le _⟩) ?_
    show W _ _ _ _ _ _ _ _ _ _ _ _ _ _ _ (F0 mX 17 ls [.int (bI (msg σ (sg σ s9 5)))])
    refine lv_if_ne (tgt := 42) hx hb dX8_isFraud_17 (by decide) (fun c_17 => ?_) (fun c_17 => ?_)
    · have c_17 := (bI_ne0.mp c_17)
      have hf9 := frd_of (s := s9) c_9 c_17 (show mng σ (sg σ s9 5) s9 = true by simp [mng])
      refine lv_aload_n hx hb dX8_isFraud_42 rfl (lv_at hl 1 rfl) ?_
      refine lv_aload_n hx hb dX8_isFraud_43 rfl (lv_at hl 2 rfl) ?_
      refine lv_iload_n hx hb dX8_isFraud_44 rfl (lv_at hl 3 rfl) ?_
      refine rd_call (va_runV (As := [.ref sa, .int (nI s9)]) (rest := []) ⟨hx, hb, hml, hown, hts⟩ (c_X8_isTrue l g cy mo a1 a2 a3 a4 a5 a6 mw mh sa s.heap.size rf z ac sp ou wy σ bd s9 hwf hwy (by omega) (by omega)) ⟨(cB 2 hts wd14_14 wd1_5 wd14_11 rfl rfl (by decide +kernel) ⟨Nat.le_of_ble_eq_true rfl, Nat.le_of_ble_eq_true rfl⟩), hts _ wd14_12, hts _ wd14_13⟩ (pv hK hP hD hS hA hX [0, 1, 2] rfl rfl 6 0 rfl rfl) rfl rfl hl.1 rfl (lv_room (Nat.le_of_ble_eq_true rfl)) dX8_isFraud_45 ⟨Nat.zero_le _, Nat.zero_le _⟩) ?_
      show W _ _ _ _ _ _ _ _ _ _ _ _ _ _ _ (F0 mX 48 ls [.int (bI (tru σ s9))])
      refine lv_if_eq (tgt := 61) hx hb dX8_isFraud_48 (by decide) (fun c_48 => ?_) (fun c_48 => ?_)
      · have c_48 := (bI_eq0.mp c_48)
        refine lv_aload_n hx hb dX8_isFraud_61 rfl (lv_at hl 1 rfl) ?_
        refine lv_aload_n hx hb dX8_isFraud_62 rfl (lv_at hl 2 rfl) ?_
        refine lv_iload_n hx hb dX8_isFraud_63 rfl (lv_at hl 3 rfl) ?_
        refine rd_call (va_runV (As := [.ref sa, .int (nI s9)]) (rest := []) ⟨hx, hb, hml, hown, hts⟩ (c_X8_isTrue l g cy mo a1 a2 a3 a4 a5 a6 mw mh sa s.heap.size rf z ac sp ou wy σ bd s9 hwf hwy (by omega) (by omega)) ⟨(cB 2 hts wd14_14 wd1_5 wd14_11 rfl rfl (by decide +kernel) ⟨Nat.le_of_ble_eq_true rfl, Nat.le_of_ble_eq_true rfl⟩), hts _ wd14_12, hts _ wd14_13⟩ (pv hK hP hD hS hA hX [0, 1, 2] rfl rfl 6 0 rfl rfl) rfl rfl hl.1 rfl (lv_room (Nat.le_of_ble_eq_true rfl)) dX8_isFraud_64 ⟨Nat.zero_le _, Nat.zero_le _⟩) ?_
        show W _ _ _ _ _ _ _ _ _ _ _ _ _ _ _ (F0 mX 67 ls [.int (bI (tru σ s9))])
        refine lv_if_ne (tgt := 74) hx hb dX8_isFraud_67 (by decide) (fun c_67 => ?_) (fun c_67 => ?_)
        · have c_67 := (bI_ne0.mp c_67)
          exact Bool.noConfusion (c_48.symm.trans c_67)
        · have c_67 := (bI_eq0.mp c_67)
          refine lv_iconst (v := (nI 1)) hx hb dX8_isFraud_70 (by decide) ?_
          refine lv_goto (tgt := 75) hx hb dX8_isFraud_71 (by decide) ?_
          exact rd_z (by rw [hf9, if_neg (by rw [c_48]; decide)]; rfl) hx hb hr dX8_isFraud_75 hlk
      · have c_48 := (bI_ne0.mp c_48)
        refine lv_aload_n hx hb dX8_isFraud_51 rfl (lv_at hl 2 rfl) ?_
        refine lv_iload_n hx hb dX8_isFraud_52 rfl (lv_at hl 3 rfl) ?_
        refine lv_iconst (v := (nI 4)) hx hb dX8_isFraud_53 (by decide) ?_
        refine rd_call (va_runS (As := [.ref sa, .int (nI s9), .int (nI 4)]) (rest := []) ⟨hx, hb, hml, hown, hts⟩ (c_X8_ofSight l g cy sa s.heap.size σ s9 4 (by omega) (by omega)) ⟨(cB 3 hts wd14_6 wd1_5 wd14_4 rfl rfl (by decide +kernel) ⟨Nat.le_of_ble_eq_true rfl, Nat.le_of_ble_eq_true rfl⟩), hts _ wd14_5⟩ (ps hK hP hD hS hA hX [2] rfl rfl) rfl rfl hl.1 rfl (lv_room (Nat.le_of_ble_eq_true rfl)) dX8_isFraud_54 ⟨Nat.zero_le _, Nat.zero_le _⟩) ?_
        show W _ _ _ _ _ _ _ _ _ _ _ _ _ _ _ (F0 mX 57 ls [.int (nI (sg σ s9 4))])
        refine lv_iconst (v := (nI 1)) hx hb dX8_isFraud_57 (by decide) ?_
        refine lv_icmp_ne (tgt := 76) hx hb dX8_isFraud_58 (by decide) (fun c_58 => ?_) (fun c_58 => ?_)
        · have c_58 := (nc_ne9 (by omega) (by omega) c_58)
          refine lv_iconst (v := (nI 0)) hx hb dX8_isFraud_76 (by decide) ?_
          refine lv_istore (lv' := [(4, .int (nI 0)), (3, .int (nI (sg σ s9 5))), (0, .ref mo), (1, .ref sa), (2, .int (nI s9))]) hx hb dX8_isFraud_77 hl (by decide) rfl (fun ls hl => ?_)
          refine lv_iconst (v := (nI 0)) hx hb dX8_isFraud_79 (by decide) ?_
          refine lv_istore (lv' := [(5, .int (nI 0)), (4, .int (nI 0)), (3, .int (nI (sg σ s9 5))), (0, .ref mo), (1, .ref sa), (2, .int (nI s9))]) hx hb dX8_isFraud_80 hl (by decide) rfl (fun ls hl => ?_)
          refine lv_iconst (v := (nI 0)) hx hb dX8_isFraud_82 (by decide) ?_
          refine lv_istore (lv' := [(6, .int (nI 0)), (5, .int (nI 0)), (4, .int (nI 0)), (3, .int (nI (sg σ s9 5))), (0, .ref mo), (1, .ref sa), (2, .int (nI s9))]) hx hb dX8_isFraud_83 hl (by decide) rfl (fun ls hl => ?_)
          have hl : lv_has ls 7 [(6, .int (nI 0)), (5, .int (nI 0)), (4, .int (bI (ex (oth σ s9) 0))), (3, .int (nI (sg σ s9 5))), (0, .ref mo), (1, .ref sa), (2, .int (nI s9))] := by rw [← show (nI 0) = (bI (ex (oth σ s9) 0)) from rfl]; exact hl
          have hl : lv_has ls 7 [(6, .int (nI 0)), (5, .int (bI (ex (fun o => oth σ s9 o && fit σ s9 o) 0))), (4, .int (bI (ex (oth σ s9) 0))), (3, .int (nI (sg σ s9 5))), (0, .ref mo), (1, .ref sa), (2, .int (nI s9))] := by rw [← show (nI 0) = (bI (ex (fun o => oth σ s9 o && fit σ s9 o) 0)) from rfl]; exact hl
          refine lp_rd (σ := (Nat)) (fun x9 ls9 => lv_has ls9 7 [(0, .ref mo), (1, .ref sa), (2, .int (nI s9)), (3, .int (nI (sg σ s9 5))), (4, .int (bI (ex (oth σ s9) x9))), (5, .int (bI (ex (fun o => oth σ s9 o && fit σ s9 o) x9))), (6, .int (nI x9))] ∧ (x9 ≤ σ 1)) (fun x9 => σ 1 - x9) (0) ⟨lv_sub hl [4, 5, 6, 3, 2, 1, 0] rfl, (by omega)⟩ ?_
          rintro i ls ⟨hl, hi⟩ ih85
          try dsimp only at hl hi ih85
          refine lv_iload hx hb dX8_isFraud_85 (lv_at hl 6 rfl) ?_
          refine lv_aload_n hx hb dX8_isFraud_87 rfl (lv_at hl 1 rfl) ?_
          refine lv_iconst (v := (nI 1)) hx hb dX8_isFraud_88 (by decide) ?_
          refine va_iald hx hb hK hP 2 0 rfl rfl (vp_in_nI (n := 1) (by omega) (by omega)) dX8_isFraud_89 ?_
          refine ti (show (mS σ) (nI 1).toNatClampNeg = nI (σ 1) from by rw [nI_clamp (by omega)]; rfl) ?_
          refine lv_icmp_ge (tgt := 152) hx hb dX8_isFraud_90 (by decide) (fun c_90 => ?_) (fun c_90 => ?_)
          · have c_90 := (nc_le (by omega) (by omega) c_90)
            have e9 : i = σ 1 := by omega
            subst e9
            refine lv_iload hx hb dX8_isFraud_152 (lv_at hl 4 rfl) ?_
            refine lv_if_eq (tgt := 166) hx hb dX8_isFraud_154 (by decide) (fun c_154 => ?_) (fun c_154 => ?_)
            · have c_154 := (bI_eq0.mp c_154)
              refine lv_iconst (v := (nI 0)) hx hb dX8_isFraud_166 (by decide) ?_
              exact rd_z (by rw [hf9, if_pos c_48, if_neg c_58]; simp [bI, nI_0, nI_o, c_154]) hx hb hr dX8_isFraud_167 hlk
            · have c_154 := (bI_ne0.mp c_154)
              refine lv_iload hx hb dX8_isFraud_157 (lv_at hl 5 rfl) ?_
              refine lv_if_ne (tgt := 166) hx hb dX8_isFraud_159 (by decide) (fun c_159 => ?_) (fun c_159 => ?_)
              · have c_159 := (bI_ne0.mp c_159)
                refine lv_iconst (v := (nI 0)) hx hb dX8_isFraud_166 (by decide) ?_
                exact rd_z (by rw [hf9, if_pos c_48, if_neg c_58]; simp [bI, nI_0, nI_o, c_154, c_159]) hx hb hr dX8_isFraud_167 hlk
              · have c_159 := (bI_eq0.mp c_159)
                refine lv_iconst (v := (nI 1)) hx hb dX8_isFraud_162 (by decide) ?_
                refine lv_goto (tgt := 167) hx hb dX8_isFraud_163 (by decide) ?_
                exact rd_z (by rw [hf9, if_pos c_48, if_neg c_58]; simp [bI, nI_0, nI_o, c_154, c_159]) hx hb hr dX8_isFraud_167 hlk
          · have c_90 := (nc_nle (by omega) (by omega) c_90)
            have hob := hwf.sb (show i < σ 1 by omega)
            refine lv_iload hx hb dX8_isFraud_93 (lv_at hl 6 rfl) ?_
            refine lv_iload_n hx hb dX8_isFraud_95 rfl (lv_at hl 2 rfl) ?_
            refine lv_icmp_eq (tgt := 146) hx hb dX8_isFraud_96 (by decide) (fun c_96 => ?_) (fun c_96 => ?_)
            · have c_96 := (nc_eq9 (by omega) (by omega) c_96)
              have hl : lv_has ls 7 [(0, .ref mo), (1, .ref sa), (2, .int (nI s9)), (3, .int (nI (sg σ s9 5))), (4, .int (bI (ex (oth σ s9) (i + 1)))), (5, .int (bI (ex (fun o => oth σ s9 o && fit σ s9 o) i))), (6, .int (nI i))] := by rw [← show (bI (ex (oth σ s9) i)) = (bI (ex (oth σ s9) (i + 1))) from (congrArg bI (by rw [ex_s, show oth σ s9 i = false from by simp [oth, c_96]]; simp))]; exact hl
              have hl : lv_has ls 7 [(0, .ref mo), (1, .ref sa), (2, .int (nI s9)), (3, .int (nI (sg σ s9 5))), (4, .int (bI (ex (oth σ s9) (i + 1)))), (5, .int (bI (ex (fun o => oth σ s9 o && fit σ s9 o) (i + 1)))), (6, .int (nI i))] := by rw [← show (bI (ex (fun o => oth σ s9 o && fit σ s9 o) i)) = (bI (ex (fun o => oth σ s9 o && fit σ s9 o) (i + 1))) from (congrArg bI (by rw [ex_s, show oth σ s9 i = false from by simp [oth, c_96]]; simp))]; exact hl
              refine lv_iinc (v := (nI (i + 1))) (lv' := [(6, .int (nI (i + 1))), (0, .ref mo), (1, .ref sa), (2, .int (nI s9)), (3, .int (nI (sg σ s9 5))), (4, .int (bI (ex (oth σ s9) (i + 1)))), (5, .int (bI (ex (fun o => oth σ s9 o && fit σ s9 o) (i + 1))))]) hx hb dX8_isFraud_146 hl (k := 6) rfl (nI_add i 1) (by decide) rfl (fun ls hl => ?_)
              refine lv_goto (tgt := 85) hx hb dX8_isFraud_149 (by decide) ?_
              exact ih85 (i + 1) ls ⟨lv_sub hl [1, 2, 3, 4, 5, 6, 0] rfl, (by omega)⟩ (by first | omega | (dsimp only; omega))
            · have c_96 := (nc_ne9 (by omega) (by omega) c_96)
              refine lv_aload_n hx hb dX8_isFraud_99 rfl (lv_at hl 1 rfl) ?_
              refine lv_iload hx hb dX8_isFraud_100 (lv_at hl 6 rfl) ?_
              refine lv_iconst (v := (nI 5)) hx hb dX8_isFraud_102 (by decide) ?_
              refine rd_call (va_runS (As := [.ref sa, .int (nI i), .int (nI 5)]) (rest := []) ⟨hx, hb, hml, hown, hts⟩ (c_X8_ofSight l g cy sa s.heap.size σ i 5 (by omega) (by omega)) ⟨(cB 3 hts wd14_6 wd1_5 wd14_4 rfl rfl (by decide +kernel) ⟨Nat.le_of_ble_eq_true rfl, Nat.le_of_ble_eq_true rfl⟩), hts _ wd14_5⟩ (ps hK hP hD hS hA hX [2] rfl rfl) rfl rfl hl.1 rfl (lv_room (Nat.le_of_ble_eq_true rfl)) dX8_isFraud_103 ⟨Nat.zero_le _, Nat.zero_le _⟩) ?_
              show W _ _ _ _ _ _ _ _ _ _ _ _ _ _ _ (F0 mX 106 ls [.int (nI (sg σ i 5))])
              refine lv_iload_n hx hb dX8_isFraud_106 rfl (lv_at hl 3 rfl) ?_
              refine lv_icmp_ne (tgt := 146) hx hb dX8_isFraud_107 (by decide) (fun c_107 => ?_) (fun c_107 => ?_)
              · have c_107 := (nc_ne9 (by omega) (by omega) c_107)
                have hl : lv_has ls 7 [(0, .ref mo), (1, .ref sa), (2, .int (nI s9)), (3, .int (nI (sg σ s9 5))), (4, .int (bI (ex (oth σ s9) (i + 1)))), (5, .int (bI (ex (fun o => oth σ s9 o && fit σ s9 o) i))), (6, .int (nI i))] := by rw [← show (bI (ex (oth σ s9) i)) = (bI (ex (oth σ s9) (i + 1))) from (congrArg bI (by rw [ex_s, show oth σ s9 i = false from by simp [oth, c_96, c_107]]; simp))]; exact hl
                have hl : lv_has ls 7 [(0, .ref mo), (1, .ref sa), (2, .int (nI s9)), (3, .int (nI (sg σ s9 5))), (4, .int (bI (ex (oth σ s9) (i + 1)))), (5, .int (bI (ex (fun o => oth σ s9 o && fit σ s9 o) (i + 1)))), (6, .int (nI i))] := by rw [← show (bI (ex (fun o => oth σ s9 o && fit σ s9 o) i)) = (bI (ex (fun o => oth σ s9 o && fit σ s9 o) (i + 1))) from (congrArg bI (by rw [ex_s, show oth σ s9 i = false from by simp [oth, c_96, c_107]]; simp))]; exact hl
                refine lv_iinc (v := (nI (i + 1))) (lv' := [(6, .int (nI (i + 1))), (0, .ref mo), (1, .ref sa), (2, .int (nI s9)), (3, .int (nI (sg σ s9 5))), (4, .int (bI (ex (oth σ s9) (i + 1)))), (5, .int (bI (ex (fun o => oth σ s9 o && fit σ s9 o) (i + 1))))]) hx hb dX8_isFraud_146 hl (k := 6) rfl (nI_add i 1) (by decide) rfl (fun ls hl => ?_)
                refine lv_goto (tgt := 85) hx hb dX8_isFraud_149 (by decide) ?_
                exact ih85 (i + 1) ls ⟨lv_sub hl [1, 2, 3, 4, 5, 6, 0] rfl, (by omega)⟩ (by first | omega | (dsimp only; omega))
              · have c_107 := (nc_eq9 (by omega) (by omega) c_107)
                refine lv_aload_n hx hb dX8_isFraud_110 rfl (lv_at hl 0 rfl) ?_
                refine lv_aload_n hx hb dX8_isFraud_111 rfl (lv_at hl 1 rfl) ?_
                refine lv_iload hx hb dX8_isFraud_112 (lv_at hl 6 rfl) ?_
                refine rd_call (va_runV (As := [.ref sa, .int (nI i)]) (rest := []) ⟨hx, hb, hml, hown, hts⟩ (c_X8_isTrue l g cy mo a1 a2 a3 a4 a5 a6 mw mh sa s.heap.size rf z ac sp ou wy σ bd i hwf hwy (by omega) (by omega)) ⟨(cB 2 hts wd14_14 wd1_5 wd14_11 rfl rfl (by decide +kernel) ⟨Nat.le_of_ble_eq_true rfl, Nat.le_of_ble_eq_true rfl⟩), hts _ wd14_12, hts _ wd14_13⟩ (pv hK hP hD hS hA hX [0, 1, 2] rfl rfl 6 0 rfl rfl) rfl rfl hl.1 rfl (lv_room (Nat.le_of_ble_eq_true rfl)) dX8_isFraud_114 ⟨Nat.zero_le _, Nat.zero_le _⟩) ?_
                show W _ _ _ _ _ _ _ _ _ _ _ _ _ _ _ (F0 mX 117 ls [.int (bI (tru σ i))])
                refine lv_if_eq (tgt := 146) hx hb dX8_isFraud_117 (by decide) (fun c_117 => ?_) (fun c_117 => ?_)
                · have c_117 := (bI_eq0.mp c_117)
                  have hl : lv_has ls 7 [(0, .ref mo), (1, .ref sa), (2, .int (nI s9)), (3, .int (nI (sg σ s9 5))), (4, .int (bI (ex (oth σ s9) (i + 1)))), (5, .int (bI (ex (fun o => oth σ s9 o && fit σ s9 o) i))), (6, .int (nI i))] := by rw [← show (bI (ex (oth σ s9) i)) = (bI (ex (oth σ s9) (i + 1))) from (congrArg bI (by rw [ex_s, show oth σ s9 i = false from by simp [oth, c_96, c_107, c_117]]; simp))]; exact hl
                  have hl : lv_has ls 7 [(0, .ref mo), (1, .ref sa), (2, .int (nI s9)), (3, .int (nI (sg σ s9 5))), (4, .int (bI (ex (oth σ s9) (i + 1)))), (5, .int (bI (ex (fun o => oth σ s9 o && fit σ s9 o) (i + 1)))), (6, .int (nI i))] := by rw [← show (bI (ex (fun o => oth σ s9 o && fit σ s9 o) i)) = (bI (ex (fun o => oth σ s9 o && fit σ s9 o) (i + 1))) from (congrArg bI (by rw [ex_s, show oth σ s9 i = false from by simp [oth, c_96, c_107, c_117]]; simp))]; exact hl
                  refine lv_iinc (v := (nI (i + 1))) (lv' := [(6, .int (nI (i + 1))), (0, .ref mo), (1, .ref sa), (2, .int (nI s9)), (3, .int (nI (sg σ s9 5))), (4, .int (bI (ex (oth σ s9) (i + 1)))), (5, .int (bI (ex (fun o => oth σ s9 o && fit σ s9 o) (i + 1))))]) hx hb dX8_isFraud_146 hl (k := 6) rfl (nI_add i 1) (by decide) rfl (fun ls hl => ?_)
                  refine lv_goto (tgt := 85) hx hb dX8_isFraud_149 (by decide) ?_
                  exact ih85 (i + 1) ls ⟨lv_sub hl [1, 2, 3, 4, 5, 6, 0] rfl, (by omega)⟩ (by first | omega | (dsimp only; omega))
                · have c_117 := (bI_ne0.mp c_117)
                  refine lv_iconst (v := (nI 1)) hx hb dX8_isFraud_120 (by decide) ?_
                  refine ti (show (nI 1) = (bI true) from rfl) ?_
                  refine lv_istore (lv' := [(4, .int (bI true)), (0, .ref mo), (1, .ref sa), (2, .int (nI s9)), (3, .int (nI (sg σ s9 5))), (5, .int (bI (ex (fun o => oth σ s9 o && fit σ s9 o) i))), (6, .int (nI i))]) hx hb dX8_isFraud_121 hl (by decide) rfl (fun ls hl => ?_)
                  refine jn_i (pcj := 144) (ls := ls) (st := []) (fun v9 => v9 = (bI (ex (fun o => oth σ s9 o && fit σ s9 o) i || fit σ s9 i))) ?_ (fun jn144 => ?_)
                  · intro v9 hv9
                    subst hv9
                    refine lv_istore (lv' := [(5, .int (bI (ex (fun o => oth σ s9 o && fit σ s9 o) i || fit σ s9 i))), (4, .int (bI true)), (0, .ref mo), (1, .ref sa), (2, .int (nI s9)), (3, .int (nI (sg σ s9 5))), (6, .int (nI i))]) hx hb dX8_isFraud_144 hl (by decide) rfl (fun ls hl => ?_)
                    have hl : lv_has ls 7 [(5, .int (bI (ex (fun o => oth σ s9 o && fit σ s9 o) i || fit σ s9 i))), (4, .int (bI (ex (oth σ s9) (i + 1)))), (0, .ref mo), (1, .ref sa), (2, .int (nI s9)), (3, .int (nI (sg σ s9 5))), (6, .int (nI i))] := by rw [← show (bI true) = (bI (ex (oth σ s9) (i + 1))) from (congrArg bI (by rw [ex_s, show oth σ s9 i = true from by simp [oth, c_96, c_107, c_117]]; simp))]; exact hl
                    have hl : lv_has ls 7 [(5, .int (bI (ex (fun o => oth σ s9 o && fit σ s9 o) (i + 1)))), (4, .int (bI (ex (oth σ s9) (i + 1)))), (0, .ref mo), (1, .ref sa), (2, .int (nI s9)), (3, .int (nI (sg σ s9 5))), (6, .int (nI i))] := by rw [← show (bI (ex (fun o => oth σ s9 o && fit σ s9 o) i || fit σ s9 i)) = (bI (ex (fun o => oth σ s9 o && fit σ s9 o) (i + 1))) from (congrArg bI (by rw [ex_s, show oth σ s9 i = true from by simp [oth, c_96, c_107, c_117]]; simp))]; exact hl
                    refine lv_iinc (v := (nI (i + 1))) (lv' := [(6, .int (nI (i + 1))), (5, .int (bI (ex (fun o => oth σ s9 o && fit σ s9 o) (i + 1)))), (4, .int (bI (ex (oth σ s9) (i + 1)))), (0, .ref mo), (1, .ref sa), (2, .int (nI s9)), (3, .int (nI (sg σ s9 5)))]) hx hb dX8_isFraud_146 hl (k := 6) rfl (nI_add i 1) (by decide) rfl (fun ls hl => ?_)
                    refine lv_goto (tgt := 85) hx hb dX8_isFraud_149 (by decide) ?_
                    exact ih85 (i + 1) ls ⟨lv_sub hl [3, 4, 5, 6, 2, 1, 0] rfl, (by omega)⟩ (by first | omega | (dsimp only; omega))
                  · skip
                    refine lv_iload hx hb dX8_isFraud_123 (lv_at hl 5 rfl) ?_
                    refine lv_if_ne (tgt := 139) hx hb dX8_isFraud_125 (by decide) (fun c_125 => ?_) (fun c_125 => ?_)
                    · have c_125 := (bI_ne0.mp c_125)
                      refine lv_iconst (v := (nI 1)) hx hb dX8_isFraud_139 (by decide) ?_
                      refine lv_goto (tgt := 144) hx hb dX8_isFraud_140 (by decide) ?_
                      exact jn144 _ (by simp [bI, nI_0, nI_o, c_125])
                    · have c_125 := (bI_eq0.mp c_125)
                      refine lv_aload_n hx hb dX8_isFraud_128 rfl (lv_at hl 1 rfl) ?_
                      refine lv_aload_n hx hb dX8_isFraud_129 rfl (lv_at hl 2 rfl) ?_
                      refine lv_iload_n hx hb dX8_isFraud_130 rfl (lv_at hl 3 rfl) ?_
                      refine lv_iload hx hb dX8_isFraud_131 (lv_at hl 6 rfl) ?_
                      refine rd_call (va_runV (As := [.ref sa, .int (nI s9), .int (nI i)]) (rest := []) ⟨hx, hb, hml, hown, hts⟩ (c_X8_fits l g cy mo a1 a2 a3 a4 a5 a6 mw mh sa s.heap.size rf z ac sp ou wy σ bd s9 i hwf hwy (by omega) (by omega) (by omega)) ⟨(cB 3 hts wd14_22 wd1_5 wd14_19 rfl rfl (by decide +kernel) ⟨Nat.le_of_ble_eq_true rfl, Nat.le_of_ble_eq_true rfl⟩), hts _ wd14_20, hts _ wd14_21⟩ (pv hK hP hD hS hA hX [0, 1, 2] rfl rfl 6 0 rfl rfl) rfl rfl hl.1 rfl (lv_room (Nat.le_of_ble_eq_true rfl)) dX8_isFraud_133 ⟨Nat.zero_le _, Nat.zero_le _⟩) ?_
                      show W _ _ _ _ _ _ _ _ _ _ _ _ _ _ _ (F0 mX 136 ls [.int (bI (fit σ s9 i))])
                      refine lv_if_eq (tgt := 143) hx hb dX8_isFraud_136 (by decide) (fun c_136 => ?_) (fun c_136 => ?_)
                      · have c_136 := (bI_eq0.mp c_136)
                        refine lv_iconst (v := (nI 0)) hx hb dX8_isFraud_143 (by decide) ?_
                        exact jn144 _ (by simp [bI, nI_0, nI_o, c_125, c_136])
                      · have c_136 := (bI_ne0.mp c_136)
                        refine lv_iconst (v := (nI 1)) hx hb dX8_isFraud_139 (by decide) ?_
                        refine lv_goto (tgt := 144) hx hb dX8_isFraud_140 (by decide) ?_
                        exact jn144 _ (by simp [bI, nI_0, nI_o, c_125, c_136])
        · have c_58 := (nc_eq9 (by omega) (by omega) c_58)
          refine lv_aload_n hx hb dX8_isFraud_61 rfl (lv_at hl 1 rfl) ?_
          refine lv_aload_n hx hb dX8_isFraud_62 rfl (lv_at hl 2 rfl) ?_
          refine lv_iload_n hx hb dX8_isFraud_63 rfl (lv_at hl 3 rfl) ?_
          refine rd_call (va_runV (As := [.ref sa, .int (nI s9)]) (rest := []) ⟨hx, hb, hml, hown, hts⟩ (c_X8_isTrue l g cy mo a1 a2 a3 a4 a5 a6 mw mh sa s.heap.size rf z ac sp ou wy σ bd s9 hwf hwy (by omega) (by omega)) ⟨(cB 2 hts wd14_14 wd1_5 wd14_11 rfl rfl (by decide +kernel) ⟨Nat.le_of_ble_eq_true rfl, Nat.le_of_ble_eq_true rfl⟩), hts _ wd14_12, hts _ wd14_13⟩ (pv hK hP hD hS hA hX [0, 1, 2] rfl rfl 6 0 rfl rfl) rfl rfl hl.1 rfl (lv_room (Nat.le_of_ble_eq_true rfl)) dX8_isFraud_64 ⟨Nat.zero_le _, Nat.zero_le _⟩) ?_
          show W _ _ _ _ _ _ _ _ _ _ _ _ _ _ _ (F0 mX 67 ls [.int (bI (tru σ s9))])
          refine lv_if_ne (tgt := 74) hx hb dX8_isFraud_67 (by decide) (fun c_67 => ?_) (fun c_67 => ?_)
          · have c_67 := (bI_ne0.mp c_67)
            refine lv_iconst (v := (nI 0)) hx hb dX8_isFraud_74 (by decide) ?_
            exact rd_z (by rw [hf9, if_pos c_48, if_pos c_58]; rfl) hx hb hr dX8_isFraud_75 hlk
          · have c_67 := (bI_eq0.mp c_67)
            exact Bool.noConfusion (c_48.symm.trans c_67)
    · have c_17 := (bI_eq0.mp c_17)
      refine lv_iload_n hx hb dX8_isFraud_20 rfl (lv_at hl 0 rfl) ?_
      refine lv_iconst (v := (nI NN)) hx hb dX8_isFraud_21 (by decide) ?_
      refine lv_icmp_eq (tgt := 40) hx hb dX8_isFraud_22 (by decide) (fun c_22 => ?_) (fun c_22 => ?_)
      · have c_22 := (nc_eq9 (by omega) (by decide) c_22)
        exact absurd c_22 c_9
      · have c_22 := (nc_ne9 (by omega) (by decide) c_22)
        refine lv_aload_n hx hb dX8_isFraud_25 rfl (lv_at hl 2 rfl) ?_
        refine lv_iload_n hx hb dX8_isFraud_26 rfl (lv_at hl 3 rfl) ?_
        refine lv_bipush (v := (nI 7)) hx hb dX8_isFraud_27 (by decide) ?_
        refine rd_call (va_runS (As := [.ref sa, .int (nI s9), .int (nI 7)]) (rest := []) ⟨hx, hb, hml, hown, hts⟩ (c_X8_ofSight l g cy sa s.heap.size σ s9 7 (by omega) (by omega)) ⟨(cB 3 hts wd14_6 wd1_5 wd14_4 rfl rfl (by decide +kernel) ⟨Nat.le_of_ble_eq_true rfl, Nat.le_of_ble_eq_true rfl⟩), hts _ wd14_5⟩ (ps hK hP hD hS hA hX [2] rfl rfl) rfl rfl hl.1 rfl (lv_room (Nat.le_of_ble_eq_true rfl)) dX8_isFraud_29 ⟨Nat.zero_le _, Nat.zero_le _⟩) ?_
        show W _ _ _ _ _ _ _ _ _ _ _ _ _ _ _ (F0 mX 32 ls [.int (nI (sg σ s9 7))])
        refine lv_iconst (v := (nI 1)) hx hb dX8_isFraud_32 (by decide) ?_
        refine lv_icmp_ne (tgt := 40) hx hb dX8_isFraud_33 (by decide) (fun c_33 => ?_) (fun c_33 => ?_)
        · have c_33 := (nc_ne9 (by omega) (by omega) c_33)
          refine lv_iconst (v := (nI 0)) hx hb dX8_isFraud_40 (by decide) ?_
          exact rd_z (by rw [show frd σ s9 = decide (sg σ s9 7 = 1) from (if_neg c_9).trans (if_neg (by rw [c_17]; decide))]; simp [c_33, bI, nI_0, nI_o]) hx hb hr dX8_isFraud_41 hlk
        · have c_33 := (nc_eq9 (by omega) (by omega) c_33)
          refine lv_iconst (v := (nI 1)) hx hb dX8_isFraud_36 (by decide) ?_
          refine lv_goto (tgt := 41) hx hb dX8_isFraud_37 (by decide) ?_
          exact rd_z (by rw [show frd σ s9 = decide (sg σ s9 7 = 1) from (if_neg c_9).trans (if_neg (by rw [c_17]; decide))]; simp [c_33, bI, nI_0, nI_o]) hx hb hr dX8_isFraud_41 hlk
set_option maxHeartbeats 4000000 in
set_option maxRecDepth 100000 in
theorem c_X8_frauds (l : Launch) (g : va_G) (cy : Nat → ClassId) (mo a1 a2 a3 a4 a5 a6 mw mh sa : Nat) (sz : Nat) (rf : Nat) (z : Nat) (ac : Nat) (sp : Nat) (ou : Nat) (wy : Nat → Nat) (σ : Nat → Nat) (bd : Nat) (hwf : WF bd σ) (hwy : ∀ i9, i9 < 144 → wy i9 = D σ i9) : Met l yX8_frauds (Cond.code yX8_frauds cX8_frauds 4 (some .int) :: wsL_law) ({ frames := 4, cells := 0, slots := 0, locals := 92 } : Room) (va_Pc [.ref mo, .ref sa] (pr g cy [(mo, .inr (6, [.int (nI rf), .ref a1, .int (nI z), .ref a2, .ref a3, .ref a4, .int (nI ac), .ref a5, .ref a6, .ref mw, .ref mh, .int (nI sp), .int (nI ou)])), aI cy mw 144 (mS wy), aI cy sa 248 (mS σ)] sz)) (rd_Q (some (.int (nI (ct (frd σ) (σ 1)))))) 0 0 (nF) := by
  refine mt_of (cc := cX8_frauds) (maxL := 4) (ret := (some .int)) (by decide +kernel) (Nat.le_of_ble_eq_true rfl) ?_
  intro pX eX s mX below meth cX ls A hx hb hr hml hown hts hlk hin hsz hAe hA hP hD hK hX hl
  have hl : lv_has ls 4 [(0, .ref mo), (1, .ref sa)] := hl
  have hS : va_S A s.heap s.heap [] := va_S.rf
  have hn0 := hwf.n0
  have hn1 := hwf.n1
  have hh2 := hwf.h2
  refine lv_iconst (v := (nI 0)) hx hb dX8_frauds_0 (by decide) ?_
  refine lv_istore_n (lv' := [(2, .int (nI 0)), (0, .ref mo), (1, .ref sa)]) hx hb dX8_frauds_1 rfl hl (by decide) rfl (fun ls hl => ?_)
  refine lv_iconst (v := (nI 0)) hx hb dX8_frauds_2 (by decide) ?_
  refine lv_istore_n (lv' := [(3, .int (nI 0)), (2, .int (nI 0)), (0, .ref mo), (1, .ref sa)]) hx hb dX8_frauds_3 rfl hl (by decide) rfl (fun ls hl => ?_)
  have hl : lv_has ls 4 [(3, .int (nI 0)), (2, .int (nI (ct (frd σ) 0))), (0, .ref mo), (1, .ref sa)] := by rw [← show (nI 0) = (nI (ct (frd σ) 0)) from rfl]; exact hl
  refine lp_rd (σ := (Nat)) (fun x9 ls9 => lv_has ls9 4 [(0, .ref mo), (1, .ref sa), (2, .int (nI (ct (frd σ) x9))), (3, .int (nI x9))] ∧ (x9 ≤ σ 1)) (fun x9 => σ 1 - x9) (0) ⟨lv_sub hl [2, 3, 1, 0] rfl, (by omega)⟩ ?_
  rintro i ls ⟨hl, hi⟩ ih4
  try dsimp only at hl hi ih4
  refine lv_iload_n hx hb dX8_frauds_4 rfl (lv_at hl 3 rfl) ?_
  refine lv_aload_n hx hb dX8_frauds_5 rfl (lv_at hl 1 rfl) ?_
  refine lv_iconst (v := (nI 1)) hx hb dX8_frauds_6 (by decide) ?_
  refine va_iald hx hb hK hP 2 0 rfl rfl (vp_in_nI (n := 1) (by omega) (by omega)) dX8_frauds_7 ?_
  refine ti (show (mS σ) (nI 1).toNatClampNeg = nI (σ 1) from by rw [nI_clamp (by omega)]; rfl) ?_
  refine lv_icmp_ge (tgt := 34) hx hb dX8_frauds_8 (by decide) (fun c_8 => ?_) (fun c_8 => ?_)
  · have c_8 := (nc_le (by omega) (by omega) c_8)
    have e9 : i = σ 1 := by omega
    subst e9
    refine lv_iload_n hx hb dX8_frauds_34 rfl (lv_at hl 2 rfl) ?_
    exact rd_i rfl hx hb hr dX8_frauds_35 hlk
  · have c_8 := (nc_nle (by omega) (by omega) c_8)
    refine lv_iload_n hx hb dX8_frauds_11 rfl (lv_at hl 2 rfl) ?_
    refine lv_aload_n hx hb dX8_frauds_12 rfl (lv_at hl 0 rfl) ?_
    refine lv_aload_n hx hb dX8_frauds_13 rfl (lv_at hl 1 rfl) ?_
    refine lv_iload_n hx hb dX8_frauds_14 rfl (lv_at hl 3 rfl) ?_
    refine rd_call (va_runV (As := [.ref sa, .int (nI i)]) (rest := [.int (nI (ct (frd σ) i))]) ⟨hx, hb, hml, hown, hts⟩ (c_X8_isFraud l g cy mo a1 a2 a3 a4 a5 a6 mw mh sa s.heap.size rf z ac sp ou wy σ bd i hwf hwy (by omega)) ⟨(cB 2 hts wd14_10 wd1_5 wd14_7 rfl rfl (by decide +kernel) ⟨Nat.le_of_ble_eq_true rfl, Nat.le_of_ble_eq_true rfl⟩), hts _ wd14_8, hts _ wd14_9⟩ (pv hK hP hD hS hA hX [0, 1, 2] rfl rfl 6 0 rfl rfl) rfl rfl hl.1 rfl (lv_room (Nat.le_of_ble_eq_true rfl)) dX8_frauds_15 ⟨Nat.zero_le _, Nat.zero_le _⟩) ?_
    show W _ _ _ _ _ _ _ _ _ _ _ _ _ _ _ (F0 mX 18 ls [.int (bI (frd σ i)), .int (nI (ct (frd σ) i))])
    refine lv_if_eq (tgt := 25) hx hb dX8_frauds_18 (by decide) (fun c_18 => ?_) (fun c_18 => ?_)
    · have c_18 := (bI_eq0.mp c_18)
      refine lv_iconst (v := (nI 0)) hx hb dX8_frauds_25 (by decide) ?_
      refine lv_iadd hx hb dX8_frauds_26 ?_
      refine ti (nI_add (ct (frd σ) i) 0) ?_
      refine lv_istore_n (lv' := [(2, .int (nI ((ct (frd σ) i) + 0))), (0, .ref mo), (1, .ref sa), (3, .int (nI i))]) hx hb dX8_frauds_27 rfl hl (by decide) rfl (fun ls hl => ?_)
      have hl : lv_has ls 4 [(2, .int (nI (ct (frd σ) (i + 1)))), (0, .ref mo), (1, .ref sa), (3, .int (nI i))] := by rw [← show (nI ((ct (frd σ) i) + 0)) = (nI (ct (frd σ) (i + 1))) from (congrArg nI (by simp [ct, c_18]))]; exact hl
      refine lv_iinc (v := (nI (i + 1))) (lv' := [(3, .int (nI (i + 1))), (2, .int (nI (ct (frd σ) (i + 1)))), (0, .ref mo), (1, .ref sa)]) hx hb dX8_frauds_28 hl (k := 3) rfl (nI_add i 1) (by decide) rfl (fun ls hl => ?_)
      refine lv_goto (tgt := 4) hx hb dX8_frauds_31 (by decide) ?_
      exact ih4 (i + 1) ls ⟨lv_sub hl [2, 3, 1, 0] rfl, (by omega)⟩ (by first | omega | (dsimp only; omega))
    · have c_18 := (bI_ne0.mp c_18)
      refine lv_iconst (v := (nI 1)) hx hb dX8_frauds_21 (by decide) ?_
      refine lv_goto (tgt := 26) hx hb dX8_frauds_22 (by decide) ?_
      refine lv_iadd hx hb dX8_frauds_26 ?_
      refine ti (nI_add (ct (frd σ) i) 1) ?_
      refine lv_istore_n (lv' := [(2, .int (nI ((ct (frd σ) i) + 1))), (0, .ref mo), (1, .ref sa), (3, .int (nI i))]) hx hb dX8_frauds_27 rfl hl (by decide) rfl (fun ls hl => ?_)
      have hl : lv_has ls 4 [(2, .int (nI (ct (frd σ) (i + 1)))), (0, .ref mo), (1, .ref sa), (3, .int (nI i))] := by rw [← show (nI ((ct (frd σ) i) + 1)) = (nI (ct (frd σ) (i + 1))) from (congrArg nI (by simp [ct, c_18]))]; exact hl
      refine lv_iinc (v := (nI (i + 1))) (lv' := [(3, .int (nI (i + 1))), (2, .int (nI (ct (frd σ) (i + 1)))), (0, .ref mo), (1, .ref sa)]) hx hb dX8_frauds_28 hl (k := 3) rfl (nI_add i 1) (by decide) rfl (fun ls hl => ?_)
      refine lv_goto (tgt := 4) hx hb dX8_frauds_31 (by decide) ?_
      exact ih4 (i + 1) ls ⟨lv_sub hl [2, 3, 1, 0] rfl, (by omega)⟩ (by first | omega | (dsimp only; omega))
set_option maxHeartbeats 4000000 in
set_option maxRecDepth 100000 in
theorem c_X8_canBeAt (l : Launch) (g : va_G) (cy : Nat → ClassId) (mo a1 a2 a3 a4 a5 a6 mw mh sa : Nat) (sz : Nat) (rf : Nat) (z : Nat) (ac : Nat) (sp : Nat) (ou : Nat) (wy : Nat → Nat) (σ : Nat → Nat) (bd : Nat) (d : Nat) (c : Nat) (hwf : WF bd σ) (hwy : ∀ i9, i9 < 144 → wy i9 = D σ i9) (hd : d < σ 0) (hc9 : c < 12) : Met l yX8_canBeAt (Cond.code yX8_canBeAt cX8_canBeAt 6 (some .boolean) :: wsL_law) ({ frames := 4, cells := 0, slots := 0, locals := 92 } : Room) (va_Pc [.ref mo, .ref sa, .int (nI d), .int (nI c)] (pr g cy [(mo, .inr (6, [.int (nI rf), .ref a1, .int (nI z), .ref a2, .ref a3, .ref a4, .int (nI ac), .ref a5, .ref a6, .ref mw, .ref mh, .int (nI sp), .int (nI ou)])), aI cy mw 144 (mS wy), aI cy sa 248 (mS σ)] sz)) (rd_Q (some (.int (bI (cbe σ d c))))) 0 0 (nF) := by
  refine mt_of (cc := cX8_canBeAt) (maxL := 6) (ret := (some .boolean)) (by decide +kernel) (Nat.le_of_ble_eq_true rfl) ?_
  intro pX eX s mX below meth cX ls A hx hb hr hml hown hts hlk hin hsz hAe hA hP hD hK hX hl
  have hl : lv_has ls 6 [(0, .ref mo), (1, .ref sa), (2, .int (nI d)), (3, .int (nI c))] := hl
  have hS : va_S A s.heap s.heap [] := va_S.rf
  have hn0 := hwf.n0
  have hn1 := hwf.n1
  have hh2 := hwf.h2
  have hdb := hwf.db hd
  have hp1 : dg σ d 1 * (σ 2 - dg σ d 3) ≤ 300000 := mul_le_of (show dg σ d 1 ≤ 3 by omega) (show σ 2 - dg σ d 3 ≤ 100000 by omega) (by decide)
  refine lv_aload_n hx hb dX8_canBeAt_0 rfl (lv_at hl 0 rfl) ?_
  refine lv_aload_n hx hb dX8_canBeAt_1 rfl (lv_at hl 1 rfl) ?_
  refine lv_iload_n hx hb dX8_canBeAt_2 rfl (lv_at hl 2 rfl) ?_
  refine lv_iconst (v := (nI 2)) hx hb dX8_canBeAt_3 (by decide) ?_
  refine rd_call (va_runS (As := [.ref sa, .int (nI d), .int (nI 2)]) (rest := [.ref mo]) ⟨hx, hb, hml, hown, hts⟩ (c_X8_ofDog l g cy sa s.heap.size σ d 2 (by omega) (by omega)) ⟨(cB 3 hts wd12_23 wd1_5 wd12_21 rfl rfl (by decide +kernel) ⟨Nat.le_of_ble_eq_true rfl, Nat.le_of_ble_eq_true rfl⟩), hts _ wd12_22⟩ (ps hK hP hD hS hA hX [2] rfl rfl) rfl rfl hl.1 rfl (lv_room (Nat.le_of_ble_eq_true rfl)) dX8_canBeAt_4 ⟨Nat.zero_le _, Nat.zero_le _⟩) ?_
  show W _ _ _ _ _ _ _ _ _ _ _ _ _ _ _ (F0 mX 7 ls [.int (nI (dg σ d 2)), .ref mo])
  refine lv_iload_n hx hb dX8_canBeAt_7 rfl (lv_at hl 3 rfl) ?_
  refine lv_aload_n hx hb dX8_canBeAt_8 rfl (lv_at hl 1 rfl) ?_
  refine lv_iload_n hx hb dX8_canBeAt_9 rfl (lv_at hl 2 rfl) ?_
  refine lv_iconst (v := (nI 1)) hx hb dX8_canBeAt_10 (by decide) ?_
  refine rd_call (va_runS (As := [.ref sa, .int (nI d), .int (nI 1)]) (rest := [.int (nI c), .int (nI (dg σ d 2)), .ref mo]) ⟨hx, hb, hml, hown, hts⟩ (c_X8_ofDog l g cy sa s.heap.size σ d 1 (by omega) (by omega)) ⟨(cB 3 hts wd12_23 wd1_5 wd12_21 rfl rfl (by decide +kernel) ⟨Nat.le_of_ble_eq_true rfl, Nat.le_of_ble_eq_true rfl⟩), hts _ wd12_22⟩ (ps hK hP hD hS hA hX [2] rfl rfl) rfl rfl hl.1 rfl (lv_room (Nat.le_of_ble_eq_true rfl)) dX8_canBeAt_11 ⟨Nat.zero_le _, Nat.zero_le _⟩) ?_
  show W _ _ _ _ _ _ _ _ _ _ _ _ _ _ _ (F0 mX 14 ls [.int (nI (dg σ d 1)), .int (nI c), .int (nI (dg σ d 2)), .ref mo])
  refine lv_aload_n hx hb dX8_canBeAt_14 rfl (lv_at hl 1 rfl) ?_
  refine lv_iconst (v := (nI 2)) hx hb dX8_canBeAt_15 (by decide) ?_
  refine va_iald hx hb hK hP 2 0 rfl rfl (vp_in_nI (n := 2) (by omega) (by omega)) dX8_canBeAt_16 ?_
  refine ti (show (mS σ) (nI 2).toNatClampNeg = nI (σ 2) from by rw [nI_clamp (by omega)]; rfl) ?_
  refine lv_aload_n hx hb dX8_canBeAt_17 rfl (lv_at hl 1 rfl) ?_
  refine lv_iload_n hx hb dX8_canBeAt_18 rfl (lv_at hl 2 rfl) ?_
  refine lv_iconst (v := (nI 3)) hx hb dX8_canBeAt_19 (by decide) ?_
  refine rd_call (va_runS (As := [.ref sa, .int (nI d), .int (nI 3)]) (rest := [.int (nI (σ 2)), .int (nI (dg σ d 1)), .int (nI c), .int (nI (dg σ d 2)), .ref mo]) ⟨hx, hb, hml, hown, hts⟩ (c_X8_ofDog l g cy sa s.heap.size σ d 3 (by omega) (by omega)) ⟨(cB 3 hts wd12_23 wd1_5 wd12_21 rfl rfl (by decide +kernel) ⟨Nat.le_of_ble_eq_true rfl, Nat.le_of_ble_eq_true rfl⟩), hts _ wd12_22⟩ (ps hK hP hD hS hA hX [2] rfl rfl) rfl rfl hl.1 rfl (lv_room (Nat.le_of_ble_eq_true rfl)) dX8_canBeAt_20 ⟨Nat.zero_le _, Nat.zero_le _⟩) ?_
  show W _ _ _ _ _ _ _ _ _ _ _ _ _ _ _ (F0 mX 23 ls [.int (nI (dg σ d 3)), .int (nI (σ 2)), .int (nI (dg σ d 1)), .int (nI c), .int (nI (dg σ d 2)), .ref mo])
  refine lv_isub hx hb dX8_canBeAt_23 ?_
  refine ti (show ((nI (σ 2)) - (nI (dg σ d 3))) = (nI (σ 2 - dg σ d 3)) from (pk_sub (by omega))) ?_
  refine lv_imul hx hb dX8_canBeAt_24 ?_
  refine ti (pk_mul (dg σ d 1) (σ 2 - dg σ d 3)) ?_
  refine rd_call (va_runV (As := [.int (nI (dg σ d 2)), .int (nI c), .int (nI ((dg σ d 1) * (σ 2 - dg σ d 3)))]) (rest := []) ⟨hx, hb, hml, hown, hts⟩ (c_X8_reaches l g cy mo a1 a2 a3 a4 a5 a6 mw mh sa s.heap.size rf z ac sp ou wy σ bd (dg σ d 2) c ((dg σ d 1) * (σ 2 - dg σ d 3)) hwy (by omega) (by omega) (by omega)) ⟨(cB 3 hts wd14_18 wd1_5 wd14_15 rfl rfl (by decide +kernel) ⟨Nat.le_of_ble_eq_true rfl, Nat.le_of_ble_eq_true rfl⟩), hts _ wd14_16, hts _ wd14_17⟩ (pv hK hP hD hS hA hX [0, 1, 2] rfl rfl 6 0 rfl rfl) rfl rfl hl.1 rfl (lv_room (Nat.le_of_ble_eq_true rfl)) dX8_canBeAt_25 ⟨Nat.zero_le _, Nat.zero_le _⟩) ?_
  show W _ _ _ _ _ _ _ _ _ _ _ _ _ _ _ (F0 mX 28 ls [.int (bI (rch σ (dg σ d 2) c ((dg σ d 1) * (σ 2 - dg σ d 3))))])
  refine lv_istore (lv' := [(4, .int (bI (rch σ (dg σ d 2) c ((dg σ d 1) * (σ 2 - dg σ d 3))))), (0, .ref mo), (1, .ref sa), (2, .int (nI d)), (3, .int (nI c))]) hx hb dX8_canBeAt_28 hl (by decide) rfl (fun ls hl => ?_)
  refine lv_iconst (v := (nI 0)) hx hb dX8_canBeAt_30 (by decide) ?_
  refine lv_istore (lv' := [(5, .int (nI 0)), (4, .int (bI (rch σ (dg σ d 2) c ((dg σ d 1) * (σ 2 - dg σ d 3))))), (0, .ref mo), (1, .ref sa), (2, .int (nI d)), (3, .int (nI c))]) hx hb dX8_canBeAt_31 hl (by decide) rfl (fun ls hl => ?_)
  have hl : lv_has ls 6 [(5, .int (nI 0)), (4, .int (bI (rch σ (dg σ d 2) c (dg σ d 1 * (σ 2 - dg σ d 3)) && al (fun s => !hon σ d s || rch σ (sg σ s 1) c (dg σ d 1 * (σ 2 - sg σ s 2))) 0))), (0, .ref mo), (1, .ref sa), (2, .int (nI d)), (3, .int (nI c))] := by rw [← show (bI (rch σ (dg σ d 2) c ((dg σ d 1) * (σ 2 - dg σ d 3)))) = (bI (rch σ (dg σ d 2) c (dg σ d 1 * (σ 2 - dg σ d 3)) && al (fun s => !hon σ d s || rch σ (sg σ s 1) c (dg σ d 1 * (σ 2 - sg σ s 2))) 0)) from (congrArg bI (by rw [show al _ 0 = true from rfl, Bool.and_true]))]; exact hl
  refine lp_rd (σ := (Nat)) (fun x9 ls9 => lv_has ls9 6 [(0, .ref mo), (1, .ref sa), (2, .int (nI d)), (3, .int (nI c)), (4, .int (bI (rch σ (dg σ d 2) c (dg σ d 1 * (σ 2 - dg σ d 3)) && al (fun s => !hon σ d s || rch σ (sg σ s 1) c (dg σ d 1 * (σ 2 - sg σ s 2))) x9))), (5, .int (nI x9))] ∧ (x9 ≤ σ 1)) (fun x9 => σ 1 - x9) (0) ⟨lv_sub hl [2, 3, 4, 5, 1, 0] rfl, (by omega)⟩ ?_
  rintro i ls ⟨hl, hi⟩ ih33
  try dsimp only at hl hi ih33
  refine lv_iload hx hb dX8_canBeAt_33 (lv_at hl 5 rfl) ?_
  refine lv_aload_n hx hb dX8_canBeAt_35 rfl (lv_at hl 1 rfl) ?_
  refine lv_iconst (v := (nI 1)) hx hb dX8_canBeAt_36 (by decide) ?_
  refine va_iald hx hb hK hP 2 0 rfl rfl (vp_in_nI (n := 1) (by omega) (by omega)) dX8_canBeAt_37 ?_
  refine ti (show (mS σ) (nI 1).toNatClampNeg = nI (σ 1) from by rw [nI_clamp (by omega)]; rfl) ?_
  refine lv_icmp_ge (tgt := 105) hx hb dX8_canBeAt_38 (by decide) (fun c_38 => ?_) (fun c_38 => ?_)
  · have c_38 := (nc_le (by omega) (by omega) c_38)
    have hca : (rch σ (dg σ d 2) c (dg σ d 1 * (σ 2 - dg σ d 3)) && al (fun s => !hon σ d s || rch σ (sg σ s 1) c (dg σ d 1 * (σ 2 - sg σ s 2))) i) = cbe σ d c := by rw [show i = σ 1 by omega]; rfl
    refine lv_iload hx hb dX8_canBeAt_105 (lv_at hl 4 rfl) ?_
    exact rd_z (congrArg bI hca) hx hb hr dX8_canBeAt_107 hlk
  · have c_38 := (nc_nle (by omega) (by omega) c_38)
    refine lv_iload hx hb dX8_canBeAt_41 (lv_at hl 4 rfl) ?_
    refine lv_if_eq (tgt := 105) hx hb dX8_canBeAt_43 (by decide) (fun c_43 => ?_) (fun c_43 => ?_)
    · have c_43 := (bI_eq0.mp c_43)
      have hca : (rch σ (dg σ d 2) c (dg σ d 1 * (σ 2 - dg σ d 3)) && al (fun s => !hon σ d s || rch σ (sg σ s 1) c (dg σ d 1 * (σ 2 - sg σ s 2))) i) = cbe σ d c := al_no c_43
      refine lv_iload hx hb dX8_canBeAt_105 (lv_at hl 4 rfl) ?_
      exact rd_z (congrArg bI hca) hx hb hr dX8_canBeAt_107 hlk
    · have c_43 := (bI_ne0.mp c_43)
      have hsb := hwf.sb (show i < σ 1 by omega)
      have hp2 : dg σ d 1 * (σ 2 - sg σ i 2) ≤ 300000 := mul_le_of (show dg σ d 1 ≤ 3 by omega) (show σ 2 - sg σ i 2 ≤ 100000 by omega) (by decide)
      refine lv_aload_n hx hb dX8_canBeAt_46 rfl (lv_at hl 1 rfl) ?_
      refine lv_iload hx hb dX8_canBeAt_47 (lv_at hl 5 rfl) ?_
      refine lv_iconst (v := (nI 5)) hx hb dX8_canBeAt_49 (by decide) ?_
      refine rd_call (va_runS (As := [.ref sa, .int (nI i), .int (nI 5)]) (rest := []) ⟨hx, hb, hml, hown, hts⟩ (c_X8_ofSight l g cy sa s.heap.size σ i 5 (by omega) (by omega)) ⟨(cB 3 hts wd14_6 wd1_5 wd14_4 rfl rfl (by decide +kernel) ⟨Nat.le_of_ble_eq_true rfl, Nat.le_of_ble_eq_true rfl⟩), hts _ wd14_5⟩ (ps hK hP hD hS hA hX [2] rfl rfl) rfl rfl hl.1 rfl (lv_room (Nat.le_of_ble_eq_true rfl)) dX8_canBeAt_50 ⟨Nat.zero_le _, Nat.zero_le _⟩) ?_
      show W _ _ _ _ _ _ _ _ _ _ _ _ _ _ _ (F0 mX 53 ls [.int (nI (sg σ i 5))])
      refine lv_iload_n hx hb dX8_canBeAt_53 rfl (lv_at hl 2 rfl) ?_
      refine lv_icmp_ne (tgt := 99) hx hb dX8_canBeAt_54 (by decide) (fun c_54 => ?_) (fun c_54 => ?_)
      · have c_54 := (nc_ne9 (by omega) (by omega) c_54)
        have hl : lv_has ls 6 [(0, .ref mo), (1, .ref sa), (2, .int (nI d)), (3, .int (nI c)), (4, .int (bI (rch σ (dg σ d 2) c (dg σ d 1 * (σ 2 - dg σ d 3)) && al (fun s => !hon σ d s || rch σ (sg σ s 1) c (dg σ d 1 * (σ 2 - sg σ s 2))) (i + 1)))), (5, .int (nI i))] := by rw [← show (bI (rch σ (dg σ d 2) c (dg σ d 1 * (σ 2 - dg σ d 3)) && al (fun s => !hon σ d s || rch σ (sg σ s 1) c (dg σ d 1 * (σ 2 - sg σ s 2))) i)) = (bI (rch σ (dg σ d 2) c (dg σ d 1 * (σ 2 - dg σ d 3)) && al (fun s => !hon σ d s || rch σ (sg σ s 1) c (dg σ d 1 * (σ 2 - sg σ s 2))) (i + 1))) from (congrArg bI (by rw [al_s9, ← Bool.and_assoc, c_43]; simp [hon, mng, c_54]))]; exact hl
        refine lv_iinc (v := (nI (i + 1))) (lv' := [(5, .int (nI (i + 1))), (0, .ref mo), (1, .ref sa), (2, .int (nI d)), (3, .int (nI c)), (4, .int (bI (rch σ (dg σ d 2) c (dg σ d 1 * (σ 2 - dg σ d 3)) && al (fun s => !hon σ d s || rch σ (sg σ s 1) c (dg σ d 1 * (σ 2 - sg σ s 2))) (i + 1))))]) hx hb dX8_canBeAt_99 hl (k := 5) rfl (nI_add i 1) (by decide) rfl (fun ls hl => ?_)
        refine lv_goto (tgt := 33) hx hb dX8_canBeAt_102 (by decide) ?_
        exact ih33 (i + 1) ls ⟨lv_sub hl [1, 2, 3, 4, 5, 0] rfl, (by omega)⟩ (by first | omega | (dsimp only; omega))
      · have c_54 := (nc_eq9 (by omega) (by omega) c_54)
        refine lv_aload_n hx hb dX8_canBeAt_57 rfl (lv_at hl 0 rfl) ?_
        refine lv_aload_n hx hb dX8_canBeAt_58 rfl (lv_at hl 1 rfl) ?_
        refine lv_iload hx hb dX8_canBeAt_59 (lv_at hl 5 rfl) ?_
        refine rd_call (va_runV (As := [.ref sa, .int (nI i)]) (rest := []) ⟨hx, hb, hml, hown, hts⟩ (c_X8_isFraud l g cy mo a1 a2 a3 a4 a5 a6 mw mh sa s.heap.size rf z ac sp ou wy σ bd i hwf hwy (by omega)) ⟨(cB 2 hts wd14_10 wd1_5 wd14_7 rfl rfl (by decide +kernel) ⟨Nat.le_of_ble_eq_true rfl, Nat.le_of_ble_eq_true rfl⟩), hts _ wd14_8, hts _ wd14_9⟩ (pv hK hP hD hS hA hX [0, 1, 2] rfl rfl 6 0 rfl rfl) rfl rfl hl.1 rfl (lv_room (Nat.le_of_ble_eq_true rfl)) dX8_canBeAt_61 ⟨Nat.zero_le _, Nat.zero_le _⟩) ?_
        show W _ _ _ _ _ _ _ _ _ _ _ _ _ _ _ (F0 mX 64 ls [.int (bI (frd σ i))])
        refine lv_if_ne (tgt := 99) hx hb dX8_canBeAt_64 (by decide) (fun c_64 => ?_) (fun c_64 => ?_)
        · have c_64 := (bI_ne0.mp c_64)
          have hl : lv_has ls 6 [(0, .ref mo), (1, .ref sa), (2, .int (nI d)), (3, .int (nI c)), (4, .int (bI (rch σ (dg σ d 2) c (dg σ d 1 * (σ 2 - dg σ d 3)) && al (fun s => !hon σ d s || rch σ (sg σ s 1) c (dg σ d 1 * (σ 2 - sg σ s 2))) (i + 1)))), (5, .int (nI i))] := by rw [← show (bI (rch σ (dg σ d 2) c (dg σ d 1 * (σ 2 - dg σ d 3)) && al (fun s => !hon σ d s || rch σ (sg σ s 1) c (dg σ d 1 * (σ 2 - sg σ s 2))) i)) = (bI (rch σ (dg σ d 2) c (dg σ d 1 * (σ 2 - dg σ d 3)) && al (fun s => !hon σ d s || rch σ (sg σ s 1) c (dg σ d 1 * (σ 2 - sg σ s 2))) (i + 1))) from (congrArg bI (by rw [al_s9, ← Bool.and_assoc, c_43]; simp [hon, mng, c_54, c_64]))]; exact hl
          refine lv_iinc (v := (nI (i + 1))) (lv' := [(5, .int (nI (i + 1))), (0, .ref mo), (1, .ref sa), (2, .int (nI d)), (3, .int (nI c)), (4, .int (bI (rch σ (dg σ d 2) c (dg σ d 1 * (σ 2 - dg σ d 3)) && al (fun s => !hon σ d s || rch σ (sg σ s 1) c (dg σ d 1 * (σ 2 - sg σ s 2))) (i + 1))))]) hx hb dX8_canBeAt_99 hl (k := 5) rfl (nI_add i 1) (by decide) rfl (fun ls hl => ?_)
          refine lv_goto (tgt := 33) hx hb dX8_canBeAt_102 (by decide) ?_
          exact ih33 (i + 1) ls ⟨lv_sub hl [1, 2, 3, 4, 5, 0] rfl, (by omega)⟩ (by first | omega | (dsimp only; omega))
        · have c_64 := (bI_eq0.mp c_64)
          refine lv_aload_n hx hb dX8_canBeAt_67 rfl (lv_at hl 0 rfl) ?_
          refine lv_aload_n hx hb dX8_canBeAt_68 rfl (lv_at hl 1 rfl) ?_
          refine lv_iload hx hb dX8_canBeAt_69 (lv_at hl 5 rfl) ?_
          refine lv_iconst (v := (nI 1)) hx hb dX8_canBeAt_71 (by decide) ?_
          refine rd_call (va_runS (As := [.ref sa, .int (nI i), .int (nI 1)]) (rest := [.ref mo]) ⟨hx, hb, hml, hown, hts⟩ (c_X8_ofSight l g cy sa s.heap.size σ i 1 (by omega) (by omega)) ⟨(cB 3 hts wd14_6 wd1_5 wd14_4 rfl rfl (by decide +kernel) ⟨Nat.le_of_ble_eq_true rfl, Nat.le_of_ble_eq_true rfl⟩), hts _ wd14_5⟩ (ps hK hP hD hS hA hX [2] rfl rfl) rfl rfl hl.1 rfl (lv_room (Nat.le_of_ble_eq_true rfl)) dX8_canBeAt_72 ⟨Nat.zero_le _, Nat.zero_le _⟩) ?_
          show W _ _ _ _ _ _ _ _ _ _ _ _ _ _ _ (F0 mX 75 ls [.int (nI (sg σ i 1)), .ref mo])
          refine lv_iload_n hx hb dX8_canBeAt_75 rfl (lv_at hl 3 rfl) ?_
          refine lv_aload_n hx hb dX8_canBeAt_76 rfl (lv_at hl 1 rfl) ?_
          refine lv_iload_n hx hb dX8_canBeAt_77 rfl (lv_at hl 2 rfl) ?_
          refine lv_iconst (v := (nI 1)) hx hb dX8_canBeAt_78 (by decide) ?_
          refine rd_call (va_runS (As := [.ref sa, .int (nI d), .int (nI 1)]) (rest := [.int (nI c), .int (nI (sg σ i 1)), .ref mo]) ⟨hx, hb, hml, hown, hts⟩ (c_X8_ofDog l g cy sa s.heap.size σ d 1 (by omega) (by omega)) ⟨(cB 3 hts wd12_23 wd1_5 wd12_21 rfl rfl (by decide +kernel) ⟨Nat.le_of_ble_eq_true rfl, Nat.le_of_ble_eq_true rfl⟩), hts _ wd12_22⟩ (ps hK hP hD hS hA hX [2] rfl rfl) rfl rfl hl.1 rfl (lv_room (Nat.le_of_ble_eq_true rfl)) dX8_canBeAt_79 ⟨Nat.zero_le _, Nat.zero_le _⟩) ?_
          show W _ _ _ _ _ _ _ _ _ _ _ _ _ _ _ (F0 mX 82 ls [.int (nI (dg σ d 1)), .int (nI c), .int (nI (sg σ i 1)), .ref mo])
          refine lv_aload_n hx hb dX8_canBeAt_82 rfl (lv_at hl 1 rfl) ?_
          refine lv_iconst (v := (nI 2)) hx hb dX8_canBeAt_83 (by decide) ?_
          refine va_iald hx hb hK hP 2 0 rfl rfl (vp_in_nI (n := 2) (by omega) (by omega)) dX8_canBeAt_84 ?_
          refine ti (show (mS σ) (nI 2).toNatClampNeg = nI (σ 2) from by rw [nI_clamp (by omega)]; rfl) ?_
          refine lv_aload_n hx hb dX8_canBeAt_85 rfl (lv_at hl 1 rfl) ?_
          refine lv_iload hx hb dX8_canBeAt_86 (lv_at hl 5 rfl) ?_
          refine lv_iconst (v := (nI 2)) hx hb dX8_canBeAt_88 (by decide) ?_
          refine rd_call (va_runS (As := [.ref sa, .int (nI i), .int (nI 2)]) (rest := [.int (nI (σ 2)), .int (nI (dg σ d 1)), .int (nI c), .int (nI (sg σ i 1)), .ref mo]) ⟨hx, hb, hml, hown, hts⟩ (c_X8_ofSight l g cy sa s.heap.size σ i 2 (by omega) (by omega)) ⟨(cB 3 hts wd14_6 wd1_5 wd14_4 rfl rfl (by decide +kernel) ⟨Nat.le_of_ble_eq_true rfl, Nat.le_of_ble_eq_true rfl⟩), hts _ wd14_5⟩ (ps hK hP hD hS hA hX [2] rfl rfl) rfl rfl hl.1 rfl (lv_room (Nat.le_of_ble_eq_true rfl)) dX8_canBeAt_89 ⟨Nat.zero_le _, Nat.zero_le _⟩) ?_
          show W _ _ _ _ _ _ _ _ _ _ _ _ _ _ _ (F0 mX 92 ls [.int (nI (sg σ i 2)), .int (nI (σ 2)), .int (nI (dg σ d 1)), .int (nI c), .int (nI (sg σ i 1)), .ref mo])
          refine lv_isub hx hb dX8_canBeAt_92 ?_
          refine ti (show ((nI (σ 2)) - (nI (sg σ i 2))) = (nI (σ 2 - sg σ i 2)) from (pk_sub (by omega))) ?_
          refine lv_imul hx hb dX8_canBeAt_93 ?_
          refine ti (pk_mul (dg σ d 1) (σ 2 - sg σ i 2)) ?_
          refine rd_call (va_runV (As := [.int (nI (sg σ i 1)), .int (nI c), .int (nI ((dg σ d 1) * (σ 2 - sg σ i 2)))]) (rest := []) ⟨hx, hb, hml, hown, hts⟩ (c_X8_reaches l g cy mo a1 a2 a3 a4 a5 a6 mw mh sa s.heap.size rf z ac sp ou wy σ bd (sg σ i 1) c ((dg σ d 1) * (σ 2 - sg σ i 2)) hwy (by omega) (by omega) (by omega)) ⟨(cB 3 hts wd14_18 wd1_5 wd14_15 rfl rfl (by decide +kernel) ⟨Nat.le_of_ble_eq_true rfl, Nat.le_of_ble_eq_true rfl⟩), hts _ wd14_16, hts _ wd14_17⟩ (pv hK hP hD hS hA hX [0, 1, 2] rfl rfl 6 0 rfl rfl) rfl rfl hl.1 rfl (lv_room (Nat.le_of_ble_eq_true rfl)) dX8_canBeAt_94 ⟨Nat.zero_le _, Nat.zero_le _⟩) ?_
          show W _ _ _ _ _ _ _ _ _ _ _ _ _ _ _ (F0 mX 97 ls [.int (bI (rch σ (sg σ i 1) c ((dg σ d 1) * (σ 2 - sg σ i 2))))])
          refine lv_istore (lv' := [(4, .int (bI (rch σ (sg σ i 1) c ((dg σ d 1) * (σ 2 - sg σ i 2))))), (0, .ref mo), (1, .ref sa), (2, .int (nI d)), (3, .int (nI c)), (5, .int (nI i))]) hx hb dX8_canBeAt_97 hl (by decide) rfl (fun ls hl => ?_)
          have hl : lv_has ls 6 [(4, .int (bI (rch σ (dg σ d 2) c (dg σ d 1 * (σ 2 - dg σ d 3)) && al (fun s => !hon σ d s || rch σ (sg σ s 1) c (dg σ d 1 * (σ 2 - sg σ s 2))) (i + 1)))), (0, .ref mo), (1, .ref sa), (2, .int (nI d)), (3, .int (nI c)), (5, .int (nI i))] := by rw [← show (bI (rch σ (sg σ i 1) c ((dg σ d 1) * (σ 2 - sg σ i 2)))) = (bI (rch σ (dg σ d 2) c (dg σ d 1 * (σ 2 - dg σ d 3)) && al (fun s => !hon σ d s || rch σ (sg σ s 1) c (dg σ d 1 * (σ 2 - sg σ s 2))) (i + 1))) from (congrArg bI (by rw [al_s9, ← Bool.and_assoc, c_43]; simp [hon, mng, c_54, c_64]))]; exact hl
          refine lv_iinc (v := (nI (i + 1))) (lv' := [(5, .int (nI (i + 1))), (4, .int (bI (rch σ (dg σ d 2) c (dg σ d 1 * (σ 2 - dg σ d 3)) && al (fun s => !hon σ d s || rch σ (sg σ s 1) c (dg σ d 1 * (σ 2 - sg σ s 2))) (i + 1)))), (0, .ref mo), (1, .ref sa), (2, .int (nI d)), (3, .int (nI c))]) hx hb dX8_canBeAt_99 hl (k := 5) rfl (nI_add i 1) (by decide) rfl (fun ls hl => ?_)
          refine lv_goto (tgt := 33) hx hb dX8_canBeAt_102 (by decide) ?_
          exact ih33 (i + 1) ls ⟨lv_sub hl [2, 3, 4, 5, 1, 0] rfl, (by omega)⟩ (by first | omega | (dsimp only; omega))
