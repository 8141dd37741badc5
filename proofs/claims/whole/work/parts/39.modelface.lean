set_option maxHeartbeats 4000000 in
set_option maxRecDepth 100000 in
theorem c_X8_refused (l : Launch) (g : va_G) (cy : Nat → ClassId) (mo a1 a2 a3 a4 a5 a6 mw mh : Nat) (sz : Nat) (rf : Nat) (z : Nat) (ac : Nat) (sp : Nat) (ou : Nat) (w9 : Nat) (hw9 : w9 < 10) : Met l yX8_refused (Cond.code yX8_refused cX8_refused 2 (some .boolean) :: wsL_law) ({ frames := 0, cells := 0, slots := 0, locals := 0 } : Room) (va_Pc [.ref mo, .int (nI w9)] (pr g cy [(mo, .inr (6, [.int (nI rf), .ref a1, .int (nI z), .ref a2, .ref a3, .ref a4, .int (nI ac), .ref a5, .ref a6, .ref mw, .ref mh, .int (nI sp), .int (nI ou)]))] sz)) (wr_Q (fun _ : Unit => (some (.int (bI (decide (0 < w9)))))) (fun _ : Unit => True) (fun _ : Unit => [(mo, .inr (6, [.int (nI w9), .ref a1, .int (nI z), .ref a2, .ref a3, .ref a4, .int (nI ac), .ref a5, .ref a6, .ref mw, .ref mh, .int (nI sp), .int (nI ou)]))]) g (va_A [(mo, .inr (6, [.int (nI rf), .ref a1, .int (nI z), .ref a2, .ref a3, .ref a4, .int (nI ac), .ref a5, .ref a6, .ref mw, .ref mh, .int (nI sp), .int (nI ou)]))] sz)) 0 0 (va_A [(mo, .inr (6, [.int (nI rf), .ref a1, .int (nI z), .ref a2, .ref a3, .ref a4, .int (nI ac), .ref a5, .ref a6, .ref mw, .ref mh, .int (nI sp), .int (nI ou)]))] sz) := by
  refine mt_of (cc := cX8_refused) (maxL := 2) (ret := (some .boolean)) (by decide +kernel) (Nat.le_of_ble_eq_true rfl) ?_
  intro pX eX s mX below meth cX ls A hx hb hr hml hown hts hlk hin hsz hAe hA hP hD hK hX hl
  subst hsz
  rw [← hAe]
  clear hAe
  have hl : lv_has ls 2 [(0, .ref mo), (1, .int (nI w9))] := hl
  have hS : va_S A s.heap s.heap [] := va_S.rf
  refine lv_aload_n hx hb dX8_refused_0 rfl (lv_at hl 0 rfl) ?_
  refine lv_iload_n hx hb dX8_refused_1 rfl (lv_at hl 1 rfl) ?_
  refine va_put (D := g) (ci := 6) (v := .int (nI w9)) (ty := .int) (C := RX8) (T := TX8) (N := 13) hx hb hts bgX8 tyX8 tyX8_ok nmX8 hown hK hP hD hS 0 rfl rfl 0 (by decide) (hts _ wd7_22) (fun _ h9 => h9) rfl (by decide +kernel) rfl rfl (Nat.le_of_ble_eq_true rfl) dX8_refused_2 (fun H locs hP hD hS => ?_)
  have hP : va_P g vwCl [(mo, .inr (6, [.int (nI w9), .ref a1, .int (nI z), .ref a2, .ref a3, .ref a4, .int (nI ac), .ref a5, .ref a6, .ref mw, .ref mh, .int (nI sp), .int (nI ou)]))] H := hP
  have hD : va_D A [(mo, .inr (6, [.int (nI w9), .ref a1, .int (nI z), .ref a2, .ref a3, .ref a4, .int (nI ac), .ref a5, .ref a6, .ref mw, .ref mh, .int (nI sp), .int (nI ou)]))] := hD
  refine lv_iload_n hx hb dX8_refused_5 rfl (lv_at hl 1 rfl) ?_
  refine lv_if_le (tgt := 13) hx hb dX8_refused_6 (by decide) (fun c_6 => ?_) (fun c_6 => ?_)
  · have c_6 := (nz_le' c_6 (by omega))
    refine lv_iconst (v := (nI 0)) hx hb dX8_refused_13 (by decide) ?_
    exact wr_z (b := (decide (0 < w9))) () (by simp [bI, nI_0, nI_o, c_6]) rfl trivial hP hS hx hb hr dX8_refused_14 hlk
  · have c_6 := (nz_gt' c_6 (by omega))
    refine lv_iconst (v := (nI 1)) hx hb dX8_refused_9 (by decide) ?_
    refine lv_goto (tgt := 14) hx hb dX8_refused_10 (by decide) ?_
    exact wr_z (b := (decide (0 < w9))) () (by simp [bI, nI_0, nI_o, c_6]) rfl trivial hP hS hx hb hr dX8_refused_14 hlk
set_option maxHeartbeats 4000000 in
set_option maxRecDepth 100000 in
theorem c_X8_remember (l : Launch) (g : va_G) (cy : Nat → ClassId) (mo a1 a2 a3 a4 a5 a6 mw mh : Nat) (sz : Nat) (rf : Nat) (z : Nat) (ac : Nat) (sp : Nat) (ou : Nat) (σ : Nat → Nat) (dy : Nat → Nat) (hac : ac ≤ 14) : Met l yX8_remember (Cond.code yX8_remember cX8_remember 2 none :: wsL_law) ({ frames := 1, cells := 0, slots := 0, locals := 24 } : Room) (va_Pc [.ref mo] (pr g cy [(mo, .inr (6, [.int (nI rf), .ref a1, .int (nI z), .ref a2, .ref a3, .ref a4, .int (nI ac), .ref a5, .ref a6, .ref mw, .ref mh, .int (nI sp), .int (nI ou)])), aI cy a2 248 (mS σ), aI cy a4 3472 (mS dy)] sz)) (wr_Q (fun _ : Unit => none) (fun _ : Unit => True) (fun _ : Unit => [(mo, .inr (6, [.int (nI rf), .ref a1, .int (nI z), .ref a2, .ref a3, .ref a4, .int (nI (hiN ac)), .ref a5, .ref a6, .ref mw, .ref mh, .int (nI sp), .int (nI ou)])), aI cy a2 248 (mS σ), aI cy a4 3472 (mS (remD σ dy ac))]) g (va_A [(mo, .inr (6, [.int (nI rf), .ref a1, .int (nI z), .ref a2, .ref a3, .ref a4, .int (nI ac), .ref a5, .ref a6, .ref mw, .ref mh, .int (nI sp), .int (nI ou)])), aI cy a2 248 (mS σ), aI cy a4 3472 (mS dy)] sz)) 0 0 (va_A [(mo, .inr (6, [.int (nI rf), .ref a1, .int (nI z), .ref a2, .ref a3, .ref a4, .int (nI ac), .ref a5, .ref a6, .ref mw, .ref mh, .int (nI sp), .int (nI ou)])), aI cy a2 248 (mS σ), aI cy a4 3472 (mS dy)] sz) := by
  refine mt_of (cc := cX8_remember) (maxL := 2) (ret := none) (by decide +kernel) (Nat.le_of_ble_eq_true rfl) ?_
  intro pX eX s mX below meth cX ls A hx hb hr hml hown hts hlk hin hsz hAe hA hP hD hK hX hl
  subst hsz
  rw [← hAe]
  clear hAe
  have hl : lv_has ls 2 [(0, .ref mo)] := hl
  have hS : va_S A s.heap s.heap [] := va_S.rf
  refine lv_aload_n hx hb dX8_remember_0 rfl (lv_at hl 0 rfl) ?_
  refine va_get (D := g) (ci := 6) (v := .int (nI ac)) (C := RX8) (T := TX8) (N := 13) hx hb hts bgX8 hown hK hP 0 rfl rfl 6 (by decide) (hts _ wd23_0) (fun _ h9 => h9) rfl dX8_remember_1 ?_
  refine lv_bipush (v := (nI 14)) hx hb dX8_remember_4 (by decide) ?_
  refine lv_icmp_ne (tgt := 50) hx hb dX8_remember_6 (by decide) (fun c_6 => ?_) (fun c_6 => ?_)
  · have c_6 := (nc_ne9 (by omega) (by omega) c_6)
    refine lv_aload_n hx hb dX8_remember_50 rfl (lv_at hl 0 rfl) ?_
    refine va_get (D := g) (ci := 6) (v := .ref a2) (C := RX8) (T := TX8) (N := 13) hx hb hts bgX8 hown hK hP 0 rfl rfl 3 (by decide) (hts _ wd5_21) (fun _ h9 => h9) rfl dX8_remember_51 ?_
    refine lv_iconst (v := (nI 0)) hx hb dX8_remember_54 (by decide) ?_
    refine lv_aload_n hx hb dX8_remember_55 rfl (lv_at hl 0 rfl) ?_
    refine va_get (D := g) (ci := 6) (v := .ref a4) (C := RX8) (T := TX8) (N := 13) hx hb hts bgX8 hown hK hP 0 rfl rfl 5 (by decide) (hts _ wd5_23) (fun _ h9 => h9) rfl dX8_remember_56 ?_
    refine lv_sipush (v := (nI 248)) hx hb dX8_remember_59 (by decide) ?_
    refine lv_aload_n hx hb dX8_remember_62 rfl (lv_at hl 0 rfl) ?_
    refine va_get (D := g) (ci := 6) (v := .int (nI ac)) (C := RX8) (T := TX8) (N := 13) hx hb hts bgX8 hown hK hP 0 rfl rfl 6 (by decide) (hts _ wd23_0) (fun _ h9 => h9) rfl dX8_remember_63 ?_
    refine lv_imul hx hb dX8_remember_66 ?_
    refine ti (pk_mul 248 ac) ?_
    refine wr_call (wc := [aI cy a2 248 (mS σ), aI cy a4 3472 (mS dy)]) (va_runS (As := [.ref a2, .int (nI 0), .ref a4, .int (nI (248 * ac))]) (rest := []) ⟨hx, hb, hml, hown, hts⟩ (c_X8_copyState l g cy a2 a4 s.heap.size 248 3472 σ dy 0 (248 * ac) (by omega) (by omega) (by omega) (by omega)) ⟨(cB 4 hts wd23_3 wd1_5 wd23_1 rfl rfl (by decide +kernel) ⟨Nat.le_of_ble_eq_true rfl, Nat.le_of_ble_eq_true rfl⟩), hts _ wd23_2⟩ (ps hK hP hD hS hA hX [1, 2] rfl rfl) rfl rfl hl.1 rfl (lv_room (Nat.le_of_ble_eq_true rfl)) dX8_remember_67 ⟨Nat.zero_le _, Nat.zero_le _⟩) hP hD hS hA [1, 2] rfl rfl (fun _ => (rfl : ([a2, a4] : List Nat) = [a2, a4])) ?_
    rintro _u9 H locs - hP hD hS
    have hP : va_P g vwCl [(mo, .inr (6, [.int (nI rf), .ref a1, .int (nI z), .ref a2, .ref a3, .ref a4, .int (nI ac), .ref a5, .ref a6, .ref mw, .ref mh, .int (nI sp), .int (nI ou)])), aI cy a2 248 (mS σ), aI cy a4 3472 (mS (cpS σ dy 0 (248 * ac) 248))] H := hP
    have hD : va_D A [(mo, .inr (6, [.int (nI rf), .ref a1, .int (nI z), .ref a2, .ref a3, .ref a4, .int (nI ac), .ref a5, .ref a6, .ref mw, .ref mh, .int (nI sp), .int (nI ou)])), aI cy a2 248 (mS σ), aI cy a4 3472 (mS (cpS σ dy 0 (248 * ac) 248))] := hD
    show W _ _ _ _ _ _ _ _ _ _ _ _ _ _ _ (F0 mX 70 ls [])
    refine lv_aload_n hx hb dX8_remember_70 rfl (lv_at hl 0 rfl) ?_
    refine lv_dup hx hb dX8_remember_71 rfl ?_
    refine va_get (D := g) (ci := 6) (v := .int (nI ac)) (C := RX8) (T := TX8) (N := 13) hx hb hts bgX8 hown hK hP 0 rfl rfl 6 (by decide) (hts _ wd23_0) (fun _ h9 => h9) rfl dX8_remember_72 ?_
    refine lv_iconst (v := (nI 1)) hx hb dX8_remember_75 (by decide) ?_
    refine lv_iadd hx hb dX8_remember_76 ?_
    refine ti (nI_add ac 1) ?_
    refine va_put (D := g) (ci := 6) (v := .int (nI (ac + 1))) (ty := .int) (C := RX8) (T := TX8) (N := 13) hx hb hts bgX8 tyX8 tyX8_ok nmX8 hown hK hP hD hS 0 rfl rfl 6 (by decide) (hts _ wd23_0) (fun _ h9 => h9) rfl (by decide +kernel) rfl rfl (Nat.le_of_ble_eq_true rfl) dX8_remember_77 (fun H locs hP hD hS => ?_)
    have hP : va_P g vwCl [(mo, .inr (6, [.int (nI rf), .ref a1, .int (nI z), .ref a2, .ref a3, .ref a4, .int (nI (ac + 1)), .ref a5, .ref a6, .ref mw, .ref mh, .int (nI sp), .int (nI ou)])), aI cy a2 248 (mS σ), aI cy a4 3472 (mS (cpS σ dy 0 (248 * ac) 248))] H := hP
    have hD : va_D A [(mo, .inr (6, [.int (nI rf), .ref a1, .int (nI z), .ref a2, .ref a3, .ref a4, .int (nI (ac + 1)), .ref a5, .ref a6, .ref mw, .ref mh, .int (nI sp), .int (nI ou)])), aI cy a2 248 (mS σ), aI cy a4 3472 (mS (cpS σ dy 0 (248 * ac) 248))] := hD
    rw [show (mS (cpS σ dy 0 (248 * ac) 248)) = (mS (remD σ dy ac)) from (congrArg mS (show _ = remD σ dy ac from (if_neg c_6).symm))] at hP hD
    rw [show (nI (ac + 1)) = (nI (hiN ac)) from (congrArg nI (by unfold hiN; rw [if_pos (by omega)]))] at hP hD
    exact wr_v () rfl trivial hP hS hx hb hr dX8_remember_80 hlk
  · have c_6 := (nc_eq9 (by omega) (by omega) c_6)
    refine lv_iconst (v := (nI 0)) hx hb dX8_remember_9 (by decide) ?_
    refine lv_istore_n (lv' := [(1, .int (nI 0)), (0, .ref mo)]) hx hb dX8_remember_10 rfl hl (by decide) rfl (fun ls hl => ?_)
    rw [show (mS dy) = (mS (shI dy 0)) from (congrArg mS shI_0.symm)] at hP hD
    refine lp_rule (σ := (Nat)) (fun x9 H9 locs9 ls9 => va_P g vwCl [(mo, .inr (6, [.int (nI rf), .ref a1, .int (nI z), .ref a2, .ref a3, .ref a4, .int (nI ac), .ref a5, .ref a6, .ref mw, .ref mh, .int (nI sp), .int (nI ou)])), aI cy a2 248 (mS σ), aI cy a4 3472 (mS (shI dy x9))] H9 ∧ va_D A [(mo, .inr (6, [.int (nI rf), .ref a1, .int (nI z), .ref a2, .ref a3, .ref a4, .int (nI ac), .ref a5, .ref a6, .ref mw, .ref mh, .int (nI sp), .int (nI ou)])), aI cy a2 248 (mS σ), aI cy a4 3472 (mS (shI dy x9))] ∧ va_S A s.heap H9 locs9 ∧ lv_has ls9 2 [(0, .ref mo), (1, .int (nI x9))] ∧ (x9 ≤ 3224)) (fun x9 => 3224 - x9) (0) ⟨hP, hD, hS, lv_sub hl [1, 0] rfl, (by omega)⟩ ?_
    rintro i H locs ls ⟨hP, hD, hS, hl, hi⟩ ih11
    try dsimp only at hl hi hP hD ih11
    refine lv_iload_n hx hb dX8_remember_11 rfl (lv_at hl 1 rfl) ?_
    refine lv_sipush (v := (nI 3224)) hx hb dX8_remember_12 (by decide) ?_
    refine lv_icmp_ge (tgt := 40) hx hb dX8_remember_15 (by decide) (fun c_15 => ?_) (fun c_15 => ?_)
    · have c_15 := (nc_le (by omega) (by omega) c_15)
      have e9 : i = 3224 := by omega
      subst e9
      refine lv_aload_n hx hb dX8_remember_40 rfl (lv_at hl 0 rfl) ?_
      refine lv_dup hx hb dX8_remember_41 rfl ?_
      refine va_get (D := g) (ci := 6) (v := .int (nI ac)) (C := RX8) (T := TX8) (N := 13) hx hb hts bgX8 hown hK hP 0 rfl rfl 6 (by decide) (hts _ wd23_0) (fun _ h9 => h9) rfl dX8_remember_42 ?_
      refine lv_iconst (v := (nI 1)) hx hb dX8_remember_45 (by decide) ?_
      refine lv_isub hx hb dX8_remember_46 ?_
      refine ti (show ((nI ac) - (nI 1)) = (nI 13) from (by rw [c_6]; decide)) ?_
      refine va_put (D := g) (ci := 6) (v := .int (nI 13)) (ty := .int) (C := RX8) (T := TX8) (N := 13) hx hb hts bgX8 tyX8 tyX8_ok nmX8 hown hK hP hD hS 0 rfl rfl 6 (by decide) (hts _ wd23_0) (fun _ h9 => h9) rfl (by decide +kernel) rfl rfl (Nat.le_of_ble_eq_true rfl) dX8_remember_47 (fun H locs hP hD hS => ?_)
      have hP : va_P g vwCl [(mo, .inr (6, [.int (nI rf), .ref a1, .int (nI z), .ref a2, .ref a3, .ref a4, .int (nI 13), .ref a5, .ref a6, .ref mw, .ref mh, .int (nI sp), .int (nI ou)])), aI cy a2 248 (mS σ), aI cy a4 3472 (mS (shI dy 3224))] H := hP
      have hD : va_D A [(mo, .inr (6, [.int (nI rf), .ref a1, .int (nI z), .ref a2, .ref a3, .ref a4, .int (nI 13), .ref a5, .ref a6, .ref mw, .ref mh, .int (nI sp), .int (nI ou)])), aI cy a2 248 (mS σ), aI cy a4 3472 (mS (shI dy 3224))] := hD
      refine lv_aload_n hx hb dX8_remember_50 rfl (lv_at hl 0 rfl) ?_
      refine va_get (D := g) (ci := 6) (v := .ref a2) (C := RX8) (T := TX8) (N := 13) hx hb hts bgX8 hown hK hP 0 rfl rfl 3 (by decide) (hts _ wd5_21) (fun _ h9 => h9) rfl dX8_remember_51 ?_
      refine lv_iconst (v := (nI 0)) hx hb dX8_remember_54 (by decide) ?_
      refine lv_aload_n hx hb dX8_remember_55 rfl (lv_at hl 0 rfl) ?_
      refine va_get (D := g) (ci := 6) (v := .ref a4) (C := RX8) (T := TX8) (N := 13) hx hb hts bgX8 hown hK hP 0 rfl rfl 5 (by decide) (hts _ wd5_23) (fun _ h9 => h9) rfl dX8_remember_56 ?_
      refine lv_sipush (v := (nI 248)) hx hb dX8_remember_59 (by decide) ?_
      refine lv_aload_n hx hb dX8_remember_62 rfl (lv_at hl 0 rfl) ?_
      refine va_get (D := g) (ci := 6) (v := .int (nI 13)) (C := RX8) (T := TX8) (N := 13) hx hb hts bgX8 hown hK hP 0 rfl rfl 6 (by decide) (hts _ wd23_0) (fun _ h9 => h9) rfl dX8_remember_63 ?_
      refine lv_imul hx hb dX8_remember_66 ?_
      refine ti (pk_mul 248 13) ?_
      refine wr_call (wc := [aI cy a2 248 (mS σ), aI cy a4 3472 (mS (shI dy 3224))]) (va_runS (As := [.ref a2, .int (nI 0), .ref a4, .int (nI (248 * 13))]) (rest := []) ⟨hx, hb, hml, hown, hts⟩ (c_X8_copyState l g cy a2 a4 H.size 248 3472 σ (shI dy 3224) 0 (248 * 13) (by omega) (by omega) (by omega) (by omega)) ⟨(cB 4 hts wd23_3 wd1_5 wd23_1 rfl rfl (by decide +kernel) ⟨Nat.le_of_ble_eq_true rfl, Nat.le_of_ble_eq_true rfl⟩), hts _ wd23_2⟩ (ps hK hP hD hS hA hX [1, 2] rfl rfl) rfl rfl hl.1 rfl (lv_room (Nat.le_of_ble_eq_true rfl)) dX8_remember_67 ⟨Nat.zero_le _, Nat.zero_le _⟩) hP hD hS hA [1, 2] rfl rfl (fun _ => (rfl : ([a2, a4] : List Nat) = [a2, a4])) ?_
      rintro _u9 H locs - hP hD hS
      have hP : va_P g vwCl [(mo, .inr (6, [.int (nI rf), .ref a1, .int (nI z), .ref a2, .ref a3, .ref a4, .int (nI 13), .ref a5, .ref a6, .ref mw, .ref mh, .int (nI sp), .int (nI ou)])), aI cy a2 248 (mS σ), aI cy a4 3472 (mS (cpS σ (shI dy 3224) 0 (248 * 13) 248))] H := hP
      have hD : va_D A [(mo, .inr (6, [.int (nI rf), .ref a1, .int (nI z), .ref a2, .ref a3, .ref a4, .int (nI 13), .ref a5, .ref a6, .ref mw, .ref mh, .int (nI sp), .int (nI ou)])), aI cy a2 248 (mS σ), aI cy a4 3472 (mS (cpS σ (shI dy 3224) 0 (248 * 13) 248))] := hD
      show W _ _ _ _ _ _ _ _ _ _ _ _ _ _ _ (F0 mX 70 ls [])
      refine lv_aload_n hx hb dX8_remember_70 rfl (lv_at hl 0 rfl) ?_
      refine lv_dup hx hb dX8_remember_71 rfl ?_
      refine va_get (D := g) (ci := 6) (v := .int (nI 13)) (C := RX8) (T := TX8) (N := 13) hx hb hts bgX8 hown hK hP 0 rfl rfl 6 (by decide) (hts _ wd23_0) (fun _ h9 => h9) rfl dX8_remember_72 ?_
      refine lv_iconst (v := (nI 1)) hx hb dX8_remember_75 (by decide) ?_
      refine lv_iadd hx hb dX8_remember_76 ?_
      refine ti (nI_add 13 1) ?_
      refine va_put (D := g) (ci := 6) (v := .int (nI (13 + 1))) (ty := .int) (C := RX8) (T := TX8) (N := 13) hx hb hts bgX8 tyX8 tyX8_ok nmX8 hown hK hP hD hS 0 rfl rfl 6 (by decide) (hts _ wd23_0) (fun _ h9 => h9) rfl (by decide +kernel) rfl rfl (Nat.le_of_ble_eq_true rfl) dX8_remember_77 (fun H locs hP hD hS => ?_)
      have hP : va_P g vwCl [(mo, .inr (6, [.int (nI rf), .ref a1, .int (nI z), .ref a2, .ref a3, .ref a4, .int (nI (13 + 1)), .ref a5, .ref a6, .ref mw, .ref mh, .int (nI sp), .int (nI ou)])), aI cy a2 248 (mS σ), aI cy a4 3472 (mS (cpS σ (shI dy 3224) 0 (248 * 13) 248))] H := hP
      have hD : va_D A [(mo, .inr (6, [.int (nI rf), .ref a1, .int (nI z), .ref a2, .ref a3, .ref a4, .int (nI (13 + 1)), .ref a5, .ref a6, .ref mw, .ref mh, .int (nI sp), .int (nI ou)])), aI cy a2 248 (mS σ), aI cy a4 3472 (mS (cpS σ (shI dy 3224) 0 (248 * 13) 248))] := hD
      rw [show (mS (cpS σ (shI dy 3224) 0 (248 * 13) 248)) = (mS (remD σ dy ac)) from (congrArg mS (show _ = remD σ dy ac from (if_pos c_6).symm))] at hP hD
      rw [show (nI (13 + 1)) = (nI (hiN ac)) from (congrArg nI (by unfold hiN; rw [if_neg (by omega)]; exact c_6.symm))] at hP hD
      exact wr_v () rfl trivial hP hS hx hb hr dX8_remember_80 hlk
    · have c_15 := (nc_nle (by omega) (by omega) c_15)
      refine lv_aload_n hx hb dX8_remember_18 rfl (lv_at hl 0 rfl) ?_
      refine va_get (D := g) (ci := 6) (v := .ref a4) (C := RX8) (T := TX8) (N := 13) hx hb hts bgX8 hown hK hP 0 rfl rfl 5 (by decide) (hts _ wd5_23) (fun _ h9 => h9) rfl dX8_remember_19 ?_
      refine lv_iload_n hx hb dX8_remember_22 rfl (lv_at hl 1 rfl) ?_
      refine lv_aload_n hx hb dX8_remember_23 rfl (lv_at hl 0 rfl) ?_
      refine va_get (D := g) (ci := 6) (v := .ref a4) (C := RX8) (T := TX8) (N := 13) hx hb hts bgX8 hown hK hP 0 rfl rfl 5 (by decide) (hts _ wd5_23) (fun _ h9 => h9) rfl dX8_remember_24 ?_
      refine lv_iload_n hx hb dX8_remember_27 rfl (lv_at hl 1 rfl) ?_
      refine lv_sipush (v := (nI 248)) hx hb dX8_remember_28 (by decide) ?_
      refine lv_iadd hx hb dX8_remember_31 ?_
      refine ti (nI_add i 248) ?_
      refine va_iald hx hb hK hP 2 0 rfl rfl (vp_in_nI (n := (i + 248)) (by omega) (by omega)) dX8_remember_32 ?_
      refine ti (show (mS (shI dy i)) (nI (i + 248)).toNatClampNeg = nI ((shI dy i) (i + 248)) from by rw [nI_clamp (by omega)]; rfl) ?_
      refine va_iast hx hb hK hP hD hS 2 0 rfl rfl (vp_in_nI (n := i) (by omega) (by omega)) dX8_remember_33 (fun H locs hP hD hS => ?_)
      rw [nI_clamp (n := i) (by omega)] at hP hD
      rw [mS_up] at hP hD
      have hP : va_P g vwCl [(mo, .inr (6, [.int (nI rf), .ref a1, .int (nI z), .ref a2, .ref a3, .ref a4, .int (nI ac), .ref a5, .ref a6, .ref mw, .ref mh, .int (nI sp), .int (nI ou)])), aI cy a2 248 (mS σ), aI cy a4 3472 (mS (up (shI dy i) i ((shI dy i) (i + 248))))] H := hP
      have hD : va_D A [(mo, .inr (6, [.int (nI rf), .ref a1, .int (nI z), .ref a2, .ref a3, .ref a4, .int (nI ac), .ref a5, .ref a6, .ref mw, .ref mh, .int (nI sp), .int (nI ou)])), aI cy a2 248 (mS σ), aI cy a4 3472 (mS (up (shI dy i) i ((shI dy i) (i + 248))))] := hD
      rw [show mS (up (shI dy i) i ((shI dy i) (i + 248))) = (mS (shI dy (i + 1))) from (congrArg mS shI_s)] at hP hD
      refine lv_iinc (v := (nI (i + 1))) (lv' := [(1, .int (nI (i + 1))), (0, .ref mo)]) hx hb dX8_remember_34 hl (k := 1) rfl (nI_add i 1) (by decide) rfl (fun ls hl => ?_)
      refine lv_goto (tgt := 11) hx hb dX8_remember_37 (by decide) ?_
      exact ih11 (i + 1) H locs ls ⟨hP, hD, hS, lv_sub hl [1, 0] rfl, (by omega)⟩ (by first | omega | (dsimp only; omega))
set_option maxHeartbeats 4000000 in
set_option maxRecDepth 100000 in
theorem c_X8_append (l : Launch) (g : va_G) (cy : Nat → ClassId) (ma : Nat → Nat) (sz : Nat) (bd : Nat) (q : Mc) (σ : Nat → Nat) (Hh : Nat → Nat → Nat) (n : Nat) (K : Nat → Nat → Nat) (fl : Nat → Bool) (tx : Nat → Nat) (ln : Nat) (vc : Int32) (hI : mI bd q σ Hh n K fl tx ln) : Met l yX8_append (Cond.code yX8_append cX8_append 2 (some .int) :: wsL_law) ({ frames := 1, cells := 0, slots := 0, locals := 25 } : Room) (va_Pc [.ref (ma 0), .int vc] (pr g cy (mQ cy ma q σ n fl tx ln) sz)) (wr_Q (fun _ : Mc => (some (.int (nI (if fApp vc ln = 0 then ln + 1 else 0))))) (fun q9 : Mc => q9.2.2.2.2.2.2.2 = rkm 0 1 2 (fApp vc ln) ∧ mI bd q9 σ Hh n K fl (if fApp vc ln = 0 then up tx ln vc.toNatClampNeg else tx) (if fApp vc ln = 0 then ln + 1 else ln)) (fun q9 : Mc => mQ cy ma q9 σ n fl (if fApp vc ln = 0 then up tx ln vc.toNatClampNeg else tx) (if fApp vc ln = 0 then ln + 1 else ln)) g (va_A (mQ cy ma q σ n fl tx ln) sz)) 0 0 (va_A (mQ cy ma q σ n fl tx ln) sz) := by
  obtain ⟨tr, dy, kp, wy, hp, sp, ou, rf⟩ := q
  obtain ⟨hwf, hn14, hdy, hkp, htx, hln⟩ := hI
  have hdy : ∀ k, k < n → ∀ j, j < 248 → dy (248 * k + j) = Hh k j := hdy
  have hkp : ∀ k, k < 2 → fl k = true → ∀ j, j < 248 → kp (248 * k + j) = K k j := hkp
  refine mt_of (cc := cX8_append) (maxL := 2) (ret := (some .int)) (by decide +kernel) (Nat.le_of_ble_eq_true rfl) ?_
  intro pX eX s mX below meth cX ls A hx hb hr hml hown hts hlk hin hsz hAe hA hP hD hK hX hl
  subst hsz
  rw [← hAe]
  clear hAe
  have hP : va_P g vwCl [(ma 0, .inr (6, [.int (nI rf), .ref (ma 1), .int (nI ln), .ref (ma 2), .ref (ma 3), .ref (ma 4), .int (nI n), .ref (ma 5), .ref (ma 6), .ref (ma 7), .ref (ma 8), .int (nI sp), .int (nI ou)])), aI cy (ma 1) 120 (mS tx), aI cy (ma 2) 248 (mS σ), aI cy (ma 3) 248 (mS tr), aI cy (ma 4) 3472 (mS dy), aI cy (ma 5) 496 (mS kp), aZ cy (ma 6) 2 (fun j => bI (fl j)), aI cy (ma 7) 144 (mS wy), aI cy (ma 8) 8 (mS hp)] s.heap := hP
  have hD : va_D A [(ma 0, .inr (6, [.int (nI rf), .ref (ma 1), .int (nI ln), .ref (ma 2), .ref (ma 3), .ref (ma 4), .int (nI n), .ref (ma 5), .ref (ma 6), .ref (ma 7), .ref (ma 8), .int (nI sp), .int (nI ou)])), aI cy (ma 1) 120 (mS tx), aI cy (ma 2) 248 (mS σ), aI cy (ma 3) 248 (mS tr), aI cy (ma 4) 3472 (mS dy), aI cy (ma 5) 496 (mS kp), aZ cy (ma 6) 2 (fun j => bI (fl j)), aI cy (ma 7) 144 (mS wy), aI cy (ma 8) 8 (mS hp)] := hD
  have hl : lv_has ls 2 [(0, .ref (ma 0)), (1, .int vc)] := hl
  have hS : va_S A s.heap s.heap [] := va_S.rf
  have hn0 := hwf.n0
  have hn1 := hwf.n1
  have hh2 := hwf.h2
  have hfr : fApp vc ln = 0 ∨ 0 < rkm 0 1 2 (fApp vc ln) := by unfold fApp rkm; (repeat' split) <;> omega
  have hfl9 : rkm 0 1 2 (fApp vc ln) < 10 := by unfold rkm; (repeat' split) <;> omega
  refine lv_aload_n hx hb dX8_append_0 rfl (lv_at hl 0 rfl) ?_
  refine jn_i (pcj := 31) (ls := ls) (st := [.ref (ma 0)]) (fun v9 => v9 = (nI (rkm 0 1 2 (fApp vc ln)))) ?_ (fun jn31 => ?_)
  · intro v9 hv9
    subst hv9
    refine wr_call (wc := [(ma 0, .inr (6, [.int (nI rf), .ref (ma 1), .int (nI ln), .ref (ma 2), .ref (ma 3), .ref (ma 4), .int (nI n), .ref (ma 5), .ref (ma 6), .ref (ma 7), .ref (ma 8), .int (nI sp), .int (nI ou)]))]) (va_runV (As := [.int (nI (rkm 0 1 2 (fApp vc ln)))]) (rest := []) ⟨hx, hb, hml, hown, hts⟩ (c_X8_refused l g cy (ma 0) (ma 1) (ma 2) (ma 3) (ma 4) (ma 5) (ma 6) (ma 7) (ma 8) s.heap.size rf ln n sp ou (rkm 0 1 2 (fApp vc ln)) (by omega)) ⟨(cB 1 hts wd7_21 wd1_5 wd7_18 rfl rfl (by decide +kernel) ⟨Nat.le_of_ble_eq_true rfl, Nat.le_of_ble_eq_true rfl⟩), hts _ wd7_19, hts _ wd7_20⟩ (pv hK hP hD hS hA hX [0] rfl rfl 6 0 rfl rfl) rfl rfl hl.1 rfl (lv_room (Nat.le_of_ble_eq_true rfl)) dX8_append_31 ⟨Nat.zero_le _, Nat.zero_le _⟩) hP hD hS hA [0] rfl rfl (fun _ => (rfl : ([ma 0] : List Nat) = [ma 0])) ?_
    rintro _u9 H locs - hP hD hS
    have hP : va_P g vwCl [(ma 0, .inr (6, [.int (nI (rkm 0 1 2 (fApp vc ln))), .ref (ma 1), .int (nI ln), .ref (ma 2), .ref (ma 3), .ref (ma 4), .int (nI n), .ref (ma 5), .ref (ma 6), .ref (ma 7), .ref (ma 8), .int (nI sp), .int (nI ou)])), aI cy (ma 1) 120 (mS tx), aI cy (ma 2) 248 (mS σ), aI cy (ma 3) 248 (mS tr), aI cy (ma 4) 3472 (mS dy), aI cy (ma 5) 496 (mS kp), aZ cy (ma 6) 2 (fun j => bI (fl j)), aI cy (ma 7) 144 (mS wy), aI cy (ma 8) 8 (mS hp)] H := hP
    have hD : va_D A [(ma 0, .inr (6, [.int (nI (rkm 0 1 2 (fApp vc ln))), .ref (ma 1), .int (nI ln), .ref (ma 2), .ref (ma 3), .ref (ma 4), .int (nI n), .ref (ma 5), .ref (ma 6), .ref (ma 7), .ref (ma 8), .int (nI sp), .int (nI ou)])), aI cy (ma 1) 120 (mS tx), aI cy (ma 2) 248 (mS σ), aI cy (ma 3) 248 (mS tr), aI cy (ma 4) 3472 (mS dy), aI cy (ma 5) 496 (mS kp), aZ cy (ma 6) 2 (fun j => bI (fl j)), aI cy (ma 7) 144 (mS wy), aI cy (ma 8) 8 (mS hp)] := hD
    show W _ _ _ _ _ _ _ _ _ _ _ _ _ _ _ (F0 mX 34 ls [.int (bI (decide (0 < (rkm 0 1 2 (fApp vc ln)))))])
    refine lv_if_eq (tgt := 39) hx hb dX8_append_34 (by decide) (fun c_34 => ?_) (fun c_34 => ?_)
    · have c_34 := (bI_eq0.mp c_34)
      have c_34 : fApp vc ln = 0 := hfr.resolve_right (of_decide_eq_false c_34)
      obtain ⟨hcin, hl120⟩ := fApp_0 c_34
      obtain ⟨c9, _, hc9, rfl⟩ := inR_ex (by decide) (by decide) hcin
      refine lv_aload_n hx hb dX8_append_39 rfl (lv_at hl 0 rfl) ?_
      refine va_get (D := g) (ci := 6) (v := .ref (ma 1)) (C := RX8) (T := TX8) (N := 13) hx hb hts bgX8 hown hK hP 0 rfl rfl 1 (by decide) (hts _ wd5_20) (fun _ h9 => h9) rfl dX8_append_40 ?_
      refine lv_aload_n hx hb dX8_append_43 rfl (lv_at hl 0 rfl) ?_
      refine va_get (D := g) (ci := 6) (v := .int (nI ln)) (C := RX8) (T := TX8) (N := 13) hx hb hts bgX8 hown hK hP 0 rfl rfl 2 (by decide) (hts _ wd7_14) (fun _ h9 => h9) rfl dX8_append_44 ?_
      refine lv_iload_n hx hb dX8_append_47 rfl (lv_at hl 1 rfl) ?_
      refine va_iast hx hb hK hP hD hS 1 0 rfl rfl (vp_in_nI (n := ln) (by omega) (by omega)) dX8_append_48 (fun H locs hP hD hS => ?_)
      rw [nI_clamp (n := ln) (by omega)] at hP hD
      rw [mS_up] at hP hD
      have hP : va_P g vwCl [(ma 0, .inr (6, [.int (nI (rkm 0 1 2 (fApp (nI c9) ln))), .ref (ma 1), .int (nI ln), .ref (ma 2), .ref (ma 3), .ref (ma 4), .int (nI n), .ref (ma 5), .ref (ma 6), .ref (ma 7), .ref (ma 8), .int (nI sp), .int (nI ou)])), aI cy (ma 1) 120 (mS (up tx ln c9)), aI cy (ma 2) 248 (mS σ), aI cy (ma 3) 248 (mS tr), aI cy (ma 4) 3472 (mS dy), aI cy (ma 5) 496 (mS kp), aZ cy (ma 6) 2 (fun j => bI (fl j)), aI cy (ma 7) 144 (mS wy), aI cy (ma 8) 8 (mS hp)] H := hP
      have hD : va_D A [(ma 0, .inr (6, [.int (nI (rkm 0 1 2 (fApp (nI c9) ln))), .ref (ma 1), .int (nI ln), .ref (ma 2), .ref (ma 3), .ref (ma 4), .int (nI n), .ref (ma 5), .ref (ma 6), .ref (ma 7), .ref (ma 8), .int (nI sp), .int (nI ou)])), aI cy (ma 1) 120 (mS (up tx ln c9)), aI cy (ma 2) 248 (mS σ), aI cy (ma 3) 248 (mS tr), aI cy (ma 4) 3472 (mS dy), aI cy (ma 5) 496 (mS kp), aZ cy (ma 6) 2 (fun j => bI (fl j)), aI cy (ma 7) 144 (mS wy), aI cy (ma 8) 8 (mS hp)] := hD
      refine lv_aload_n hx hb dX8_append_49 rfl (lv_at hl 0 rfl) ?_
      refine lv_dup hx hb dX8_append_50 rfl ?_
      refine va_get (D := g) (ci := 6) (v := .int (nI ln)) (C := RX8) (T := TX8) (N := 13) hx hb hts bgX8 hown hK hP 0 rfl rfl 2 (by decide) (hts _ wd7_14) (fun _ h9 => h9) rfl dX8_append_51 ?_
      refine lv_iconst (v := (nI 1)) hx hb dX8_append_54 (by decide) ?_
      refine lv_iadd hx hb dX8_append_55 ?_
      refine ti (nI_add ln 1) ?_
      refine va_put (D := g) (ci := 6) (v := .int (nI (ln + 1))) (ty := .int) (C := RX8) (T := TX8) (N := 13) hx hb hts bgX8 tyX8 tyX8_ok nmX8 hown hK hP hD hS 0 rfl rfl 2 (by decide) (hts _ wd7_14) (fun _ h9 => h9) rfl (by decide +kernel) rfl rfl (Nat.le_of_ble_eq_true rfl) dX8_append_56 (fun H locs hP hD hS => ?_)
      have hP : va_P g vwCl [(ma 0, .inr (6, [.int (nI (rkm 0 1 2 (fApp (nI c9) ln))), .ref (ma 1), .int (nI (ln + 1)), .ref (ma 2), .ref (ma 3), .ref (ma 4), .int (nI n), .ref (ma 5), .ref (ma 6), .ref (ma 7), .ref (ma 8), .int (nI sp), .int (nI ou)])), aI cy (ma 1) 120 (mS (up tx ln c9)), aI cy (ma 2) 248 (mS σ), aI cy (ma 3) 248 (mS tr), aI cy (ma 4) 3472 (mS dy), aI cy (ma 5) 496 (mS kp), aZ cy (ma 6) 2 (fun j => bI (fl j)), aI cy (ma 7) 144 (mS wy), aI cy (ma 8) 8 (mS hp)] H := hP
      have hD : va_D A [(ma 0, .inr (6, [.int (nI (rkm 0 1 2 (fApp (nI c9) ln))), .ref (ma 1), .int (nI (ln + 1)), .ref (ma 2), .ref (ma 3), .ref (ma 4), .int (nI n), .ref (ma 5), .ref (ma 6), .ref (ma 7), .ref (ma 8), .int (nI sp), .int (nI ou)])), aI cy (ma 1) 120 (mS (up tx ln c9)), aI cy (ma 2) 248 (mS σ), aI cy (ma 3) 248 (mS tr), aI cy (ma 4) 3472 (mS dy), aI cy (ma 5) 496 (mS kp), aZ cy (ma 6) 2 (fun j => bI (fl j)), aI cy (ma 7) 144 (mS wy), aI cy (ma 8) 8 (mS hp)] := hD
      refine lv_aload_n hx hb dX8_append_59 rfl (lv_at hl 0 rfl) ?_
      refine va_get (D := g) (ci := 6) (v := .int (nI (ln + 1))) (C := RX8) (T := TX8) (N := 13) hx hb hts bgX8 hown hK hP 0 rfl rfl 2 (by decide) (hts _ wd7_14) (fun _ h9 => h9) rfl dX8_append_60 ?_
      exact wr_i (tr, dy, kp, wy, hp, sp, ou, rkm 0 1 2 (fApp (nI c9) ln)) (by rw [if_pos c_34]) ⟨rfl, (by simp only [if_pos c_34, nI_clamp (show c9 < 2 ^ 31 by omega)]; exact ⟨hwf, hn14, hdy, hkp, (fun i => by by_cases e : i = ln; rw [e, up_s]; omega; rw [up_n e]; exact htx i), (by omega)⟩)⟩ (by simp only [if_pos c_34, nI_clamp (show c9 < 2 ^ 31 by omega)]; exact hP) hS hx hb hr dX8_append_63 hlk
    · have c_34 := (bI_ne0.mp c_34)
      have c_34 : ¬ fApp vc ln = 0 := fun e => by rw [e] at c_34; exact absurd c_34 (by decide)
      refine lv_iconst (v := (nI 0)) hx hb dX8_append_37 (by decide) ?_
      exact wr_i (tr, dy, kp, wy, hp, sp, ou, rkm 0 1 2 (fApp vc ln)) (by rw [if_neg c_34]) ⟨rfl, (by simp only [if_neg c_34]; exact ⟨hwf, hn14, hdy, hkp, htx, hln⟩)⟩ (by simp only [if_neg c_34]; exact hP) hS hx hb hr dX8_append_38 hlk
  · skip
    refine lv_iload_n hx hb dX8_append_1 rfl (lv_at hl 1 rfl) ?_
    refine lv_i2l (v := vc.toInt64) hx hb dX8_append_2 rfl ?_
    refine lv_lconst (v := 0) hx hb dX8_append_3 rfl ?_
    refine lv_ldc2 hx hb hown (hts _ wd7_13) dX8_append_4 ?_
    refine rd_call (va_runS (As := [.long vc.toInt64, .long (0 : Int64), .long (255 : Int64)]) (rest := [.ref (ma 0)]) ⟨hx, hb, hml, hown, hts⟩ (c_X8_in l vc.toInt64 (0 : Int64) (255 : Int64) ) ⟨(cB 3 hts wd7_17 wd1_5 wd7_15 rfl rfl (by decide +kernel) ⟨Nat.le_of_ble_eq_true rfl, Nat.le_of_ble_eq_true rfl⟩), hts _ wd7_16⟩ p0 rfl rfl hl.1 rfl (lv_room (Nat.le_of_ble_eq_true rfl)) dX8_append_7 ⟨Nat.zero_le _, Nat.zero_le _⟩) ?_
    show W _ _ _ _ _ _ _ _ _ _ _ _ _ _ _ (F0 mX 10 ls [.int (bI (inL vc.toInt64 (0 : Int64) (255 : Int64))), .ref (ma 0)])
    refine ti (show (bI (inL vc.toInt64 (0 : Int64) (255 : Int64))) = (bI (inR vc (nI 0) (nI 255))) from (congrArg bI (inL_c (a := 0) (b := 255) (by decide) (by decide)))) ?_
    refine lv_if_ne (tgt := 17) hx hb dX8_append_10 (by decide) (fun c_10 => ?_) (fun c_10 => ?_)
    · have c_10 := (bI_ne0.mp c_10)
      refine lv_aload_n hx hb dX8_append_17 rfl (lv_at hl 0 rfl) ?_
      refine va_get (D := g) (ci := 6) (v := .int (nI ln)) (C := RX8) (T := TX8) (N := 13) hx hb hts bgX8 hown hK hP 0 rfl rfl 2 (by decide) (hts _ wd7_14) (fun _ h9 => h9) rfl dX8_append_18 ?_
      refine lv_bipush (v := (nI 120)) hx hb dX8_append_21 (by decide) ?_
      refine lv_icmp_ne (tgt := 30) hx hb dX8_append_23 (by decide) (fun c_23 => ?_) (fun c_23 => ?_)
      · have c_23 := (nc_ne9 (by omega) (by omega) c_23)
        refine lv_iconst (v := (nI 0)) hx hb dX8_append_30 (by decide) ?_
        exact jn31 _ (congrArg nI (by unfold fApp rkm; rw [c_10]; (repeat' split) <;> first | omega | contradiction | simp_all))
      · have c_23 := (nc_eq9 (by omega) (by omega) c_23)
        refine lv_iconst (v := (nI 2)) hx hb dX8_append_26 (by decide) ?_
        refine lv_goto (tgt := 31) hx hb dX8_append_27 (by decide) ?_
        exact jn31 _ (congrArg nI (by unfold fApp rkm; rw [c_10]; (repeat' split) <;> first | omega | contradiction | simp_all))
    · have c_10 := (bI_eq0.mp c_10)
      refine lv_iconst (v := (nI 1)) hx hb dX8_append_13 (by decide) ?_
      refine lv_goto (tgt := 31) hx hb dX8_append_14 (by decide) ?_
      exact jn31 _ (congrArg nI (by unfold fApp rkm; rw [c_10]; (repeat' split) <;> first | omega | contradiction | simp_all))
set_option maxHeartbeats 4000000 in
set_option maxRecDepth 100000 in
theorem c_X8_clearText (l : Launch) (g : va_G) (cy : Nat → ClassId) (ma : Nat → Nat) (sz : Nat) (bd : Nat) (q : Mc) (σ : Nat → Nat) (Hh : Nat → Nat → Nat) (n : Nat) (K : Nat → Nat → Nat) (fl : Nat → Bool) (tx : Nat → Nat) (ln : Nat)  (hI : mI bd q σ Hh n K fl tx ln) : Met l yX8_clearText (Cond.code yX8_clearText cX8_clearText 2 (some .int) :: wsL_law) ({ frames := 0, cells := 0, slots := 0, locals := 0 } : Room) (va_Pc [.ref (ma 0)] (pr g cy (mQ cy ma q σ n fl tx ln) sz)) (wr_Q (fun _ : Mc => (some (.int (nI ln)))) (fun q9 : Mc => q9.2.2.2.2.2.2.2 = 0 ∧ mI bd q9 σ Hh n K fl tx 0) (fun q9 : Mc => mQ cy ma q9 σ n fl tx 0) g (va_A (mQ cy ma q σ n fl tx ln) sz)) 0 0 (va_A (mQ cy ma q σ n fl tx ln) sz) := by
  obtain ⟨tr, dy, kp, wy, hp, sp, ou, rf⟩ := q
  obtain ⟨hwf, hn14, hdy, hkp, htx, hln⟩ := hI
  have hdy : ∀ k, k < n → ∀ j, j < 248 → dy (248 * k + j) = Hh k j := hdy
  have hkp : ∀ k, k < 2 → fl k = true → ∀ j, j < 248 → kp (248 * k + j) = K k j := hkp
  refine mt_of (cc := cX8_clearText) (maxL := 2) (ret := (some .int)) (by decide +kernel) (Nat.le_of_ble_eq_true rfl) ?_
  intro pX eX s mX below meth cX ls A hx hb hr hml hown hts hlk hin hsz hAe hA hP hD hK hX hl
  subst hsz
  rw [← hAe]
  clear hAe
  have hP : va_P g vwCl [(ma 0, .inr (6, [.int (nI rf), .ref (ma 1), .int (nI ln), .ref (ma 2), .ref (ma 3), .ref (ma 4), .int (nI n), .ref (ma 5), .ref (ma 6), .ref (ma 7), .ref (ma 8), .int (nI sp), .int (nI ou)])), aI cy (ma 1) 120 (mS tx), aI cy (ma 2) 248 (mS σ), aI cy (ma 3) 248 (mS tr), aI cy (ma 4) 3472 (mS dy), aI cy (ma 5) 496 (mS kp), aZ cy (ma 6) 2 (fun j => bI (fl j)), aI cy (ma 7) 144 (mS wy), aI cy (ma 8) 8 (mS hp)] s.heap := hP
  have hD : va_D A [(ma 0, .inr (6, [.int (nI rf), .ref (ma 1), .int (nI ln), .ref (ma 2), .ref (ma 3), .ref (ma 4), .int (nI n), .ref (ma 5), .ref (ma 6), .ref (ma 7), .ref (ma 8), .int (nI sp), .int (nI ou)])), aI cy (ma 1) 120 (mS tx), aI cy (ma 2) 248 (mS σ), aI cy (ma 3) 248 (mS tr), aI cy (ma 4) 3472 (mS dy), aI cy (ma 5) 496 (mS kp), aZ cy (ma 6) 2 (fun j => bI (fl j)), aI cy (ma 7) 144 (mS wy), aI cy (ma 8) 8 (mS hp)] := hD
  have hl : lv_has ls 2 [(0, .ref (ma 0))] := hl
  have hS : va_S A s.heap s.heap [] := va_S.rf
  have hn0 := hwf.n0
  have hn1 := hwf.n1
  have hh2 := hwf.h2
  refine lv_aload_n hx hb dX8_clearText_0 rfl (lv_at hl 0 rfl) ?_
  refine lv_iconst (v := (nI 0)) hx hb dX8_clearText_1 (by decide) ?_
  refine va_put (D := g) (ci := 6) (v := .int (nI 0)) (ty := .int) (C := RX8) (T := TX8) (N := 13) hx hb hts bgX8 tyX8 tyX8_ok nmX8 hown hK hP hD hS 0 rfl rfl 0 (by decide) (hts _ wd7_22) (fun _ h9 => h9) rfl (by decide +kernel) rfl rfl (Nat.le_of_ble_eq_true rfl) dX8_clearText_2 (fun H locs hP hD hS => ?_)
  have hP : va_P g vwCl [(ma 0, .inr (6, [.int (nI 0), .ref (ma 1), .int (nI ln), .ref (ma 2), .ref (ma 3), .ref (ma 4), .int (nI n), .ref (ma 5), .ref (ma 6), .ref (ma 7), .ref (ma 8), .int (nI sp), .int (nI ou)])), aI cy (ma 1) 120 (mS tx), aI cy (ma 2) 248 (mS σ), aI cy (ma 3) 248 (mS tr), aI cy (ma 4) 3472 (mS dy), aI cy (ma 5) 496 (mS kp), aZ cy (ma 6) 2 (fun j => bI (fl j)), aI cy (ma 7) 144 (mS wy), aI cy (ma 8) 8 (mS hp)] H := hP
  have hD : va_D A [(ma 0, .inr (6, [.int (nI 0), .ref (ma 1), .int (nI ln), .ref (ma 2), .ref (ma 3), .ref (ma 4), .int (nI n), .ref (ma 5), .ref (ma 6), .ref (ma 7), .ref (ma 8), .int (nI sp), .int (nI ou)])), aI cy (ma 1) 120 (mS tx), aI cy (ma 2) 248 (mS σ), aI cy (ma 3) 248 (mS tr), aI cy (ma 4) 3472 (mS dy), aI cy (ma 5) 496 (mS kp), aZ cy (ma 6) 2 (fun j => bI (fl j)), aI cy (ma 7) 144 (mS wy), aI cy (ma 8) 8 (mS hp)] := hD
  refine lv_aload_n hx hb dX8_clearText_5 rfl (lv_at hl 0 rfl) ?_
  refine va_get (D := g) (ci := 6) (v := .int (nI ln)) (C := RX8) (T := TX8) (N := 13) hx hb hts bgX8 hown hK hP 0 rfl rfl 2 (by decide) (hts _ wd7_14) (fun _ h9 => h9) rfl dX8_clearText_6 ?_
  refine lv_istore_n (lv' := [(1, .int (nI ln)), (0, .ref (ma 0))]) hx hb dX8_clearText_9 rfl hl (by decide) rfl (fun ls hl => ?_)
  refine lv_aload_n hx hb dX8_clearText_10 rfl (lv_at hl 1 rfl) ?_
  refine lv_iconst (v := (nI 0)) hx hb dX8_clearText_11 (by decide) ?_
  refine va_put (D := g) (ci := 6) (v := .int (nI 0)) (ty := .int) (C := RX8) (T := TX8) (N := 13) hx hb hts bgX8 tyX8 tyX8_ok nmX8 hown hK hP hD hS 0 rfl rfl 2 (by decide) (hts _ wd7_14) (fun _ h9 => h9) rfl (by decide +kernel) rfl rfl (Nat.le_of_ble_eq_true rfl) dX8_clearText_12 (fun H locs hP hD hS => ?_)
  have hP : va_P g vwCl [(ma 0, .inr (6, [.int (nI 0), .ref (ma 1), .int (nI 0), .ref (ma 2), .ref (ma 3), .ref (ma 4), .int (nI n), .ref (ma 5), .ref (ma 6), .ref (ma 7), .ref (ma 8), .int (nI sp), .int (nI ou)])), aI cy (ma 1) 120 (mS tx), aI cy (ma 2) 248 (mS σ), aI cy (ma 3) 248 (mS tr), aI cy (ma 4) 3472 (mS dy), aI cy (ma 5) 496 (mS kp), aZ cy (ma 6) 2 (fun j => bI (fl j)), aI cy (ma 7) 144 (mS wy), aI cy (ma 8) 8 (mS hp)] H := hP
  have hD : va_D A [(ma 0, .inr (6, [.int (nI 0), .ref (ma 1), .int (nI 0), .ref (ma 2), .ref (ma 3), .ref (ma 4), .int (nI n), .ref (ma 5), .ref (ma 6), .ref (ma 7), .ref (ma 8), .int (nI sp), .int (nI ou)])), aI cy (ma 1) 120 (mS tx), aI cy (ma 2) 248 (mS σ), aI cy (ma 3) 248 (mS tr), aI cy (ma 4) 3472 (mS dy), aI cy (ma 5) 496 (mS kp), aZ cy (ma 6) 2 (fun j => bI (fl j)), aI cy (ma 7) 144 (mS wy), aI cy (ma 8) 8 (mS hp)] := hD
  refine lv_iload_n hx hb dX8_clearText_15 rfl (lv_at hl 0 rfl) ?_
  exact wr_i (tr, dy, kp, wy, hp, sp, ou, 0) rfl ⟨rfl, ⟨hwf, hn14, hdy, hkp, htx, (Nat.zero_le _)⟩⟩ hP hS hx hb hr dX8_clearText_16 hlk
set_option maxHeartbeats 4000000 in
set_option maxRecDepth 100000 in
theorem c_X8_thrown (l : Launch) (g : va_G) (cy : Nat → ClassId) (sz : Nat) (ma : Nat → Nat) (tr : Nat → Nat) (dy : Nat → Nat) (kp : Nat → Nat) (wy : Nat → Nat) (hp : Nat → Nat) (sp : Nat) (ou : Nat) (rf : Nat) (σ : Nat → Nat) (n : Nat) (fl : Nat → Bool) (tx : Nat → Nat) (ln : Nat) : Met l yX8_thrown (Cond.code yX8_thrown cX8_thrown 1 (some .int) :: wsL_law) ({ frames := 0, cells := 0, slots := 0, locals := 0 } : Room) (va_Pc [.ref (ma 0)] (pr g cy [(ma 0, .inr (6, [.int (nI rf), .ref (ma 1), .int (nI ln), .ref (ma 2), .ref (ma 3), .ref (ma 4), .int (nI n), .ref (ma 5), .ref (ma 6), .ref (ma 7), .ref (ma 8), .int (nI sp), .int (nI ou)])), aI cy (ma 1) 120 (mS tx), aI cy (ma 2) 248 (mS σ), aI cy (ma 3) 248 (mS tr), aI cy (ma 4) 3472 (mS dy), aI cy (ma 5) 496 (mS kp), aZ cy (ma 6) 2 (fun j => bI (fl j)), aI cy (ma 7) 144 (mS wy), aI cy (ma 8) 8 (mS hp)] sz)) (rd_Q (some (.int (nI rf)))) 0 0 (nF) := by
  refine mt_of (cc := cX8_thrown) (maxL := 1) (ret := (some .int)) (by decide +kernel) (Nat.le_of_ble_eq_true rfl) ?_
  intro pX eX s mX below meth cX ls A hx hb hr hml hown hts hlk hin hsz hAe hA hP hD hK hX hl
  have hl : lv_has ls 1 [(0, .ref (ma 0))] := hl
  have hS : va_S A s.heap s.heap [] := va_S.rf
  refine lv_aload_n hx hb dX8_thrown_0 rfl (lv_at hl 0 rfl) ?_
  refine va_get (D := g) (ci := 6) (v := .int (nI rf)) (C := RX8) (T := TX8) (N := 13) hx hb hts bgX8 hown hK hP 0 rfl rfl 0 (by decide) (hts _ wd7_22) (fun _ h9 => h9) rfl dX8_thrown_1 ?_
  exact rd_i rfl hx hb hr dX8_thrown_4 hlk
set_option maxHeartbeats 4000000 in
set_option maxRecDepth 100000 in
theorem c_X8_about (l : Launch) (g : va_G) (cy : Nat → ClassId) (ma : Nat → Nat) (sz : Nat) (bd : Nat) (q : Mc) (σ : Nat → Nat) (Hh : Nat → Nat → Nat) (n : Nat) (K : Nat → Nat → Nat) (fl : Nat → Bool) (tx : Nat → Nat) (ln : Nat) (vw : Int32) (hI : mI bd q σ Hh n K fl tx ln) : Met l yX8_about (Cond.code yX8_about cX8_about 2 (some .int) :: wsL_law) ({ frames := 5, cells := 0, slots := 0, locals := 115 } : Room) (va_Pc [.ref (ma 0), .int vw] (pr g cy (mQ cy ma q σ n fl tx ln) sz)) (wr_Q (fun _ : Mc => (some (.int (nI (if fAbo vw = 0 then nbd σ vw.toNatClampNeg else 0))))) (fun q9 : Mc => q9.2.2.2.2.2.2.2 = rkm 0 1 0 (fAbo vw) ∧ mI bd q9 σ Hh n K fl tx ln) (fun q9 : Mc => mQ cy ma q9 σ n fl tx ln) g (va_A (mQ cy ma q σ n fl tx ln) sz)) 0 0 (va_A (mQ cy ma q σ n fl tx ln) sz) := by
  obtain ⟨tr, dy, kp, wy, hp, sp, ou, rf⟩ := q
  obtain ⟨hwf, hn14, hdy, hkp, htx, hln⟩ := hI
  have hdy : ∀ k, k < n → ∀ j, j < 248 → dy (248 * k + j) = Hh k j := hdy
  have hkp : ∀ k, k < 2 → fl k = true → ∀ j, j < 248 → kp (248 * k + j) = K k j := hkp
  refine mt_of (cc := cX8_about) (maxL := 2) (ret := (some .int)) (by decide +kernel) (Nat.le_of_ble_eq_true rfl) ?_
  intro pX eX s mX below meth cX ls A hx hb hr hml hown hts hlk hin hsz hAe hA hP hD hK hX hl
  subst hsz
  rw [← hAe]
  clear hAe
  have hP : va_P g vwCl [(ma 0, .inr (6, [.int (nI rf), .ref (ma 1), .int (nI ln), .ref (ma 2), .ref (ma 3), .ref (ma 4), .int (nI n), .ref (ma 5), .ref (ma 6), .ref (ma 7), .ref (ma 8), .int (nI sp), .int (nI ou)])), aI cy (ma 1) 120 (mS tx), aI cy (ma 2) 248 (mS σ), aI cy (ma 3) 248 (mS tr), aI cy (ma 4) 3472 (mS dy), aI cy (ma 5) 496 (mS kp), aZ cy (ma 6) 2 (fun j => bI (fl j)), aI cy (ma 7) 144 (mS wy), aI cy (ma 8) 8 (mS hp)] s.heap := hP
  have hD : va_D A [(ma 0, .inr (6, [.int (nI rf), .ref (ma 1), .int (nI ln), .ref (ma 2), .ref (ma 3), .ref (ma 4), .int (nI n), .ref (ma 5), .ref (ma 6), .ref (ma 7), .ref (ma 8), .int (nI sp), .int (nI ou)])), aI cy (ma 1) 120 (mS tx), aI cy (ma 2) 248 (mS σ), aI cy (ma 3) 248 (mS tr), aI cy (ma 4) 3472 (mS dy), aI cy (ma 5) 496 (mS kp), aZ cy (ma 6) 2 (fun j => bI (fl j)), aI cy (ma 7) 144 (mS wy), aI cy (ma 8) 8 (mS hp)] := hD
  have hl : lv_has ls 2 [(0, .ref (ma 0)), (1, .int vw)] := hl
  have hS : va_S A s.heap s.heap [] := va_S.rf
  have hn0 := hwf.n0
  have hn1 := hwf.n1
  have hh2 := hwf.h2
  have hfr : fAbo vw = 0 ∨ 0 < rkm 0 1 0 (fAbo vw) := by unfold fAbo rkm; (repeat' split) <;> omega
  have hfl9 : rkm 0 1 0 (fAbo vw) < 10 := by unfold rkm; (repeat' split) <;> omega
  refine lv_aload_n hx hb dX8_about_0 rfl (lv_at hl 0 rfl) ?_
  refine jn_i (pcj := 18) (ls := ls) (st := [.ref (ma 0)]) (fun v9 => v9 = (nI (rkm 0 1 0 (fAbo vw)))) ?_ (fun jn18 => ?_)
  · intro v9 hv9
    subst hv9
    refine wr_call (wc := [(ma 0, .inr (6, [.int (nI rf), .ref (ma 1), .int (nI ln), .ref (ma 2), .ref (ma 3), .ref (ma 4), .int (nI n), .ref (ma 5), .ref (ma 6), .ref (ma 7), .ref (ma 8), .int (nI sp), .int (nI ou)]))]) (va_runV (As := [.int (nI (rkm 0 1 0 (fAbo vw)))]) (rest := []) ⟨hx, hb, hml, hown, hts⟩ (c_X8_refused l g cy (ma 0) (ma 1) (ma 2) (ma 3) (ma 4) (ma 5) (ma 6) (ma 7) (ma 8) s.heap.size rf ln n sp ou (rkm 0 1 0 (fAbo vw)) (by omega)) ⟨(cB 1 hts wd7_21 wd1_5 wd7_18 rfl rfl (by decide +kernel) ⟨Nat.le_of_ble_eq_true rfl, Nat.le_of_ble_eq_true rfl⟩), hts _ wd7_19, hts _ wd7_20⟩ (pv hK hP hD hS hA hX [0] rfl rfl 6 0 rfl rfl) rfl rfl hl.1 rfl (lv_room (Nat.le_of_ble_eq_true rfl)) dX8_about_18 ⟨Nat.zero_le _, Nat.zero_le _⟩) hP hD hS hA [0] rfl rfl (fun _ => (rfl : ([ma 0] : List Nat) = [ma 0])) ?_
    rintro _u9 H locs - hP hD hS
    have hP : va_P g vwCl [(ma 0, .inr (6, [.int (nI (rkm 0 1 0 (fAbo vw))), .ref (ma 1), .int (nI ln), .ref (ma 2), .ref (ma 3), .ref (ma 4), .int (nI n), .ref (ma 5), .ref (ma 6), .ref (ma 7), .ref (ma 8), .int (nI sp), .int (nI ou)])), aI cy (ma 1) 120 (mS tx), aI cy (ma 2) 248 (mS σ), aI cy (ma 3) 248 (mS tr), aI cy (ma 4) 3472 (mS dy), aI cy (ma 5) 496 (mS kp), aZ cy (ma 6) 2 (fun j => bI (fl j)), aI cy (ma 7) 144 (mS wy), aI cy (ma 8) 8 (mS hp)] H := hP
    have hD : va_D A [(ma 0, .inr (6, [.int (nI (rkm 0 1 0 (fAbo vw))), .ref (ma 1), .int (nI ln), .ref (ma 2), .ref (ma 3), .ref (ma 4), .int (nI n), .ref (ma 5), .ref (ma 6), .ref (ma 7), .ref (ma 8), .int (nI sp), .int (nI ou)])), aI cy (ma 1) 120 (mS tx), aI cy (ma 2) 248 (mS σ), aI cy (ma 3) 248 (mS tr), aI cy (ma 4) 3472 (mS dy), aI cy (ma 5) 496 (mS kp), aZ cy (ma 6) 2 (fun j => bI (fl j)), aI cy (ma 7) 144 (mS wy), aI cy (ma 8) 8 (mS hp)] := hD
    show W _ _ _ _ _ _ _ _ _ _ _ _ _ _ _ (F0 mX 21 ls [.int (bI (decide (0 < (rkm 0 1 0 (fAbo vw)))))])
    refine lv_if_eq (tgt := 26) hx hb dX8_about_21 (by decide) (fun c_21 => ?_) (fun c_21 => ?_)
    · have c_21 := (bI_eq0.mp c_21)
      have c_21 : fAbo vw = 0 := hfr.resolve_right (of_decide_eq_false c_21)
      obtain ⟨w9, hw9, rfl⟩ := fAbo_0 c_21
      refine lv_aload_n hx hb dX8_about_26 rfl (lv_at hl 0 rfl) ?_
      refine lv_aload_n hx hb dX8_about_27 rfl (lv_at hl 0 rfl) ?_
      refine va_get (D := g) (ci := 6) (v := .ref (ma 2)) (C := RX8) (T := TX8) (N := 13) hx hb hts bgX8 hown hK hP 0 rfl rfl 3 (by decide) (hts _ wd5_21) (fun _ h9 => h9) rfl dX8_about_28 ?_
      refine wr_call (wc := [(ma 0, .inr (6, [.int (nI (rkm 0 1 0 (fAbo (nI w9)))), .ref (ma 1), .int (nI ln), .ref (ma 2), .ref (ma 3), .ref (ma 4), .int (nI n), .ref (ma 5), .ref (ma 6), .ref (ma 7), .ref (ma 8), .int (nI sp), .int (nI ou)])), aI cy (ma 7) 144 (mS wy), aI cy (ma 2) 248 (mS σ)]) (va_runV (As := [.ref (ma 2)]) (rest := []) ⟨hx, hb, hml, hown, hts⟩ (c_X8_measure l g cy (ma 0) (ma 1) (ma 2) (ma 3) (ma 4) (ma 5) (ma 6) (ma 7) (ma 8) (ma 2) H.size (rkm 0 1 0 (fAbo (nI w9))) ln n sp ou wy σ bd hwf) ⟨(cB 1 hts wd13_20 wd1_5 wd13_17 rfl rfl (by decide +kernel) ⟨Nat.le_of_ble_eq_true rfl, Nat.le_of_ble_eq_true rfl⟩), hts _ wd13_18, hts _ wd13_19⟩ (pv hK hP hD hS hA hX [0, 7, 2] rfl rfl 6 0 rfl rfl) rfl rfl hl.1 rfl (lv_room (Nat.le_of_ble_eq_true rfl)) dX8_about_31 ⟨Nat.zero_le _, Nat.zero_le _⟩) hP hD hS hA [0, 7, 2] rfl rfl (fun _ => (rfl : ([ma 0, ma 7, ma 2] : List Nat) = [ma 0, ma 7, ma 2])) ?_
      rintro _u9 H locs - hP hD hS
      have hP : va_P g vwCl [(ma 0, .inr (6, [.int (nI (rkm 0 1 0 (fAbo (nI w9)))), .ref (ma 1), .int (nI ln), .ref (ma 2), .ref (ma 3), .ref (ma 4), .int (nI n), .ref (ma 5), .ref (ma 6), .ref (ma 7), .ref (ma 8), .int (nI sp), .int (nI ou)])), aI cy (ma 1) 120 (mS tx), aI cy (ma 2) 248 (mS σ), aI cy (ma 3) 248 (mS tr), aI cy (ma 4) 3472 (mS dy), aI cy (ma 5) 496 (mS kp), aZ cy (ma 6) 2 (fun j => bI (fl j)), aI cy (ma 7) 144 (mS (D σ)), aI cy (ma 8) 8 (mS hp)] H := hP
      have hD : va_D A [(ma 0, .inr (6, [.int (nI (rkm 0 1 0 (fAbo (nI w9)))), .ref (ma 1), .int (nI ln), .ref (ma 2), .ref (ma 3), .ref (ma 4), .int (nI n), .ref (ma 5), .ref (ma 6), .ref (ma 7), .ref (ma 8), .int (nI sp), .int (nI ou)])), aI cy (ma 1) 120 (mS tx), aI cy (ma 2) 248 (mS σ), aI cy (ma 3) 248 (mS tr), aI cy (ma 4) 3472 (mS dy), aI cy (ma 5) 496 (mS kp), aZ cy (ma 6) 2 (fun j => bI (fl j)), aI cy (ma 7) 144 (mS (D σ)), aI cy (ma 8) 8 (mS hp)] := hD
      show W _ _ _ _ _ _ _ _ _ _ _ _ _ _ _ (F0 mX 34 ls [])
      refine lv_iload_n hx hb dX8_about_34 rfl (lv_at hl 1 rfl) ?_
      rcases (show w9 = 0 ∨ w9 = 1 ∨ w9 = 2 ∨ w9 = 3 ∨ w9 = 4 ∨ w9 = 5 ∨ w9 = 6 ∨ w9 = 7 ∨ w9 = 8 ∨ w9 = 9 ∨ w9 = 10 by omega) with rfl | rfl | rfl | rfl | rfl | rfl | rfl | rfl | rfl | rfl | rfl
      · refine lv_tableIn (tgt := 92) (off := 57) hx hb dX8_about_35 (by decide) (by decide) (by decide) (by decide) ?_
        refine lv_aload_n hx hb dX8_about_92 rfl (lv_at hl 0 rfl) ?_
        refine va_get (D := g) (ci := 6) (v := .ref (ma 2)) (C := RX8) (T := TX8) (N := 13) hx hb hts bgX8 hown hK hP 0 rfl rfl 3 (by decide) (hts _ wd5_21) (fun _ h9 => h9) rfl dX8_about_93 ?_
        refine lv_iconst (v := (nI 0)) hx hb dX8_about_96 (by decide) ?_
        refine va_iald hx hb hK hP 2 0 rfl rfl (vp_in_nI (n := 0) (by omega) (by omega)) dX8_about_97 ?_
        refine ti (show (mS σ) (nI 0).toNatClampNeg = nI (σ 0) from by rw [nI_clamp (by omega)]; rfl) ?_
        exact wr_i (tr, dy, kp, D σ, hp, sp, ou, rkm 0 1 0 (fAbo (nI 0))) (by rw [if_pos c_21, nI_clamp (by decide)]; rfl) ⟨rfl, ⟨hwf, hn14, hdy, hkp, htx, hln⟩⟩ hP hS hx hb hr dX8_about_98 hlk
      · refine lv_tableIn (tgt := 99) (off := 64) hx hb dX8_about_35 (by decide) (by decide) (by decide) (by decide) ?_
        refine lv_aload_n hx hb dX8_about_99 rfl (lv_at hl 0 rfl) ?_
        refine va_get (D := g) (ci := 6) (v := .ref (ma 2)) (C := RX8) (T := TX8) (N := 13) hx hb hts bgX8 hown hK hP 0 rfl rfl 3 (by decide) (hts _ wd5_21) (fun _ h9 => h9) rfl dX8_about_100 ?_
        refine rd_call (va_runS (As := [.ref (ma 2)]) (rest := []) ⟨hx, hb, hml, hown, hts⟩ (c_X8_missing l g cy (ma 2) H.size σ bd hwf) ⟨(cB 1 hts wd24_10 wd1_5 wd24_8 rfl rfl (by decide +kernel) ⟨Nat.le_of_ble_eq_true rfl, Nat.le_of_ble_eq_true rfl⟩), hts _ wd24_9⟩ (ps hK hP hD hS hA hX [2] rfl rfl) rfl rfl hl.1 rfl (lv_room (Nat.le_of_ble_eq_true rfl)) dX8_about_103 ⟨Nat.zero_le _, Nat.zero_le _⟩) ?_
        show W _ _ _ _ _ _ _ _ _ _ _ _ _ _ _ (F0 mX 106 ls [.int (nI (ct (msg σ) (σ 0)))])
        exact wr_i (tr, dy, kp, D σ, hp, sp, ou, rkm 0 1 0 (fAbo (nI 1))) (by rw [if_pos c_21, nI_clamp (by decide)]; rfl) ⟨rfl, ⟨hwf, hn14, hdy, hkp, htx, hln⟩⟩ hP hS hx hb hr dX8_about_106 hlk
      · refine lv_tableIn (tgt := 107) (off := 72) hx hb dX8_about_35 (by decide) (by decide) (by decide) (by decide) ?_
        refine lv_aload_n hx hb dX8_about_107 rfl (lv_at hl 0 rfl) ?_
        refine va_get (D := g) (ci := 6) (v := .ref (ma 2)) (C := RX8) (T := TX8) (N := 13) hx hb hts bgX8 hown hK hP 0 rfl rfl 3 (by decide) (hts _ wd5_21) (fun _ h9 => h9) rfl dX8_about_108 ?_
        refine lv_iconst (v := (nI 1)) hx hb dX8_about_111 (by decide) ?_
        refine va_iald hx hb hK hP 2 0 rfl rfl (vp_in_nI (n := 1) (by omega) (by omega)) dX8_about_112 ?_
        refine ti (show (mS σ) (nI 1).toNatClampNeg = nI (σ 1) from by rw [nI_clamp (by omega)]; rfl) ?_
        exact wr_i (tr, dy, kp, D σ, hp, sp, ou, rkm 0 1 0 (fAbo (nI 2))) (by rw [if_pos c_21, nI_clamp (by decide)]; rfl) ⟨rfl, ⟨hwf, hn14, hdy, hkp, htx, hln⟩⟩ hP hS hx hb hr dX8_about_113 hlk
      · refine lv_tableIn (tgt := 147) (off := 112) hx hb dX8_about_35 (by decide) (by decide) (by decide) (by decide) ?_
        refine lv_aload_n hx hb dX8_about_147 rfl (lv_at hl 0 rfl) ?_
        refine va_get (D := g) (ci := 6) (v := .ref (ma 2)) (C := RX8) (T := TX8) (N := 13) hx hb hts bgX8 hown hK hP 0 rfl rfl 3 (by decide) (hts _ wd5_21) (fun _ h9 => h9) rfl dX8_about_148 ?_
        refine lv_iload_n hx hb dX8_about_151 rfl (lv_at hl 1 rfl) ?_
        refine lv_iconst (v := (nI 1)) hx hb dX8_about_152 (by decide) ?_
        refine lv_isub hx hb dX8_about_153 ?_
        refine ti (show ((nI 3) - (nI 1)) = (nI 2) from (by decide)) ?_
        refine va_iald hx hb hK hP 2 0 rfl rfl (vp_in_nI (n := 2) (by omega) (by omega)) dX8_about_154 ?_
        refine ti (show (mS σ) (nI 2).toNatClampNeg = nI (σ 2) from by rw [nI_clamp (by omega)]; rfl) ?_
        exact wr_i (tr, dy, kp, D σ, hp, sp, ou, rkm 0 1 0 (fAbo (nI 3))) (by rw [if_pos c_21, nI_clamp (by decide)]; rfl) ⟨rfl, ⟨hwf, hn14, hdy, hkp, htx, hln⟩⟩ hP hS hx hb hr dX8_about_155 hlk
      · refine lv_tableIn (tgt := 147) (off := 112) hx hb dX8_about_35 (by decide) (by decide) (by decide) (by decide) ?_
        refine lv_aload_n hx hb dX8_about_147 rfl (lv_at hl 0 rfl) ?_
        refine va_get (D := g) (ci := 6) (v := .ref (ma 2)) (C := RX8) (T := TX8) (N := 13) hx hb hts bgX8 hown hK hP 0 rfl rfl 3 (by decide) (hts _ wd5_21) (fun _ h9 => h9) rfl dX8_about_148 ?_
        refine lv_iload_n hx hb dX8_about_151 rfl (lv_at hl 1 rfl) ?_
        refine lv_iconst (v := (nI 1)) hx hb dX8_about_152 (by decide) ?_
        refine lv_isub hx hb dX8_about_153 ?_
        refine ti (show ((nI 4) - (nI 1)) = (nI 3) from (by decide)) ?_
        refine va_iald hx hb hK hP 2 0 rfl rfl (vp_in_nI (n := 3) (by omega) (by omega)) dX8_about_154 ?_
        refine ti (show (mS σ) (nI 3).toNatClampNeg = nI (σ 3) from by rw [nI_clamp (by omega)]; rfl) ?_
        exact wr_i (tr, dy, kp, D σ, hp, sp, ou, rkm 0 1 0 (fAbo (nI 4))) (by rw [if_pos c_21, nI_clamp (by decide)]; rfl) ⟨rfl, ⟨hwf, hn14, hdy, hkp, htx, hln⟩⟩ hP hS hx hb hr dX8_about_155 hlk
      · refine lv_tableIn (tgt := 147) (off := 112) hx hb dX8_about_35 (by decide) (by decide) (by decide) (by decide) ?_
        refine lv_aload_n hx hb dX8_about_147 rfl (lv_at hl 0 rfl) ?_
        refine va_get (D := g) (ci := 6) (v := .ref (ma 2)) (C := RX8) (T := TX8) (N := 13) hx hb hts bgX8 hown hK hP 0 rfl rfl 3 (by decide) (hts _ wd5_21) (fun _ h9 => h9) rfl dX8_about_148 ?_
        refine lv_iload_n hx hb dX8_about_151 rfl (lv_at hl 1 rfl) ?_
        refine lv_iconst (v := (nI 1)) hx hb dX8_about_152 (by decide) ?_
        refine lv_isub hx hb dX8_about_153 ?_
        refine ti (show ((nI 5) - (nI 1)) = (nI 4) from (by decide)) ?_
        refine va_iald hx hb hK hP 2 0 rfl rfl (vp_in_nI (n := 4) (by omega) (by omega)) dX8_about_154 ?_
        refine ti (show (mS σ) (nI 4).toNatClampNeg = nI (σ 4) from by rw [nI_clamp (by omega)]; rfl) ?_
        exact wr_i (tr, dy, kp, D σ, hp, sp, ou, rkm 0 1 0 (fAbo (nI 5))) (by rw [if_pos c_21, nI_clamp (by decide)]; rfl) ⟨rfl, ⟨hwf, hn14, hdy, hkp, htx, hln⟩⟩ hP hS hx hb hr dX8_about_155 hlk
      · refine lv_tableIn (tgt := 147) (off := 112) hx hb dX8_about_35 (by decide) (by decide) (by decide) (by decide) ?_
        refine lv_aload_n hx hb dX8_about_147 rfl (lv_at hl 0 rfl) ?_
        refine va_get (D := g) (ci := 6) (v := .ref (ma 2)) (C := RX8) (T := TX8) (N := 13) hx hb hts bgX8 hown hK hP 0 rfl rfl 3 (by decide) (hts _ wd5_21) (fun _ h9 => h9) rfl dX8_about_148 ?_
        refine lv_iload_n hx hb dX8_about_151 rfl (lv_at hl 1 rfl) ?_
        refine lv_iconst (v := (nI 1)) hx hb dX8_about_152 (by decide) ?_
        refine lv_isub hx hb dX8_about_153 ?_
        refine ti (show ((nI 6) - (nI 1)) = (nI 5) from (by decide)) ?_
        refine va_iald hx hb hK hP 2 0 rfl rfl (vp_in_nI (n := 5) (by omega) (by omega)) dX8_about_154 ?_
        refine ti (show (mS σ) (nI 5).toNatClampNeg = nI (σ 5) from by rw [nI_clamp (by omega)]; rfl) ?_
        exact wr_i (tr, dy, kp, D σ, hp, sp, ou, rkm 0 1 0 (fAbo (nI 6))) (by rw [if_pos c_21, nI_clamp (by decide)]; rfl) ⟨rfl, ⟨hwf, hn14, hdy, hkp, htx, hln⟩⟩ hP hS hx hb hr dX8_about_155 hlk
      · refine lv_tableIn (tgt := 114) (off := 79) hx hb dX8_about_35 (by decide) (by decide) (by decide) (by decide) ?_
        refine lv_aload_n hx hb dX8_about_114 rfl (lv_at hl 0 rfl) ?_
        refine va_get (D := g) (ci := 6) (v := .ref (ma 2)) (C := RX8) (T := TX8) (N := 13) hx hb hts bgX8 hown hK hP 0 rfl rfl 3 (by decide) (hts _ wd5_21) (fun _ h9 => h9) rfl dX8_about_115 ?_
        refine rd_call (va_runS (As := [.ref (ma 2)]) (rest := []) ⟨hx, hb, hml, hown, hts⟩ (c_X8_rewards l g cy (ma 2) H.size σ bd hwf) ⟨(cB 1 hts wd24_13 wd1_5 wd24_11 rfl rfl (by decide +kernel) ⟨Nat.le_of_ble_eq_true rfl, Nat.le_of_ble_eq_true rfl⟩), hts _ wd24_12⟩ (ps hK hP hD hS hA hX [2] rfl rfl) rfl rfl hl.1 rfl (lv_room (Nat.le_of_ble_eq_true rfl)) dX8_about_118 ⟨Nat.zero_le _, Nat.zero_le _⟩) ?_
        show W _ _ _ _ _ _ _ _ _ _ _ _ _ _ _ (F0 mX 121 ls [.int (nI (sm (fun d => if msg σ d then dg σ d 4 else 0) (σ 0)))])
        exact wr_i (tr, dy, kp, D σ, hp, sp, ou, rkm 0 1 0 (fAbo (nI 7))) (by rw [if_pos c_21, nI_clamp (by decide)]; rfl) ⟨rfl, ⟨hwf, hn14, hdy, hkp, htx, hln⟩⟩ hP hS hx hb hr dX8_about_121 hlk
      · refine lv_tableIn (tgt := 122) (off := 87) hx hb dX8_about_35 (by decide) (by decide) (by decide) (by decide) ?_
        refine lv_aload_n hx hb dX8_about_122 rfl (lv_at hl 0 rfl) ?_
        refine lv_aload_n hx hb dX8_about_123 rfl (lv_at hl 0 rfl) ?_
        refine va_get (D := g) (ci := 6) (v := .ref (ma 2)) (C := RX8) (T := TX8) (N := 13) hx hb hts bgX8 hown hK hP 0 rfl rfl 3 (by decide) (hts _ wd5_21) (fun _ h9 => h9) rfl dX8_about_124 ?_
        refine rd_call (va_runV (As := [.ref (ma 2)]) (rest := []) ⟨hx, hb, hml, hown, hts⟩ (c_X8_frauds l g cy (ma 0) (ma 1) (ma 2) (ma 3) (ma 4) (ma 5) (ma 6) (ma 7) (ma 8) (ma 2) H.size (rkm 0 1 0 (fAbo (nI 8))) ln n sp ou (D σ) σ bd hwf (by omega)) ⟨(cB 1 hts wd24_17 wd1_5 wd24_14 rfl rfl (by decide +kernel) ⟨Nat.le_of_ble_eq_true rfl, Nat.le_of_ble_eq_true rfl⟩), hts _ wd24_15, hts _ wd24_16⟩ (pv hK hP hD hS hA hX [0, 7, 2] rfl rfl 6 0 rfl rfl) rfl rfl hl.1 rfl (lv_room (Nat.le_of_ble_eq_true rfl)) dX8_about_127 ⟨Nat.zero_le _, Nat.zero_le _⟩) ?_
        show W _ _ _ _ _ _ _ _ _ _ _ _ _ _ _ (F0 mX 130 ls [.int (nI (ct (frd σ) (σ 1)))])
        exact wr_i (tr, dy, kp, D σ, hp, sp, ou, rkm 0 1 0 (fAbo (nI 8))) (by rw [if_pos c_21, nI_clamp (by decide)]; rfl) ⟨rfl, ⟨hwf, hn14, hdy, hkp, htx, hln⟩⟩ hP hS hx hb hr dX8_about_130 hlk
      · refine lv_tableIn (tgt := 131) (off := 96) hx hb dX8_about_35 (by decide) (by decide) (by decide) (by decide) ?_
        refine lv_aload_n hx hb dX8_about_131 rfl (lv_at hl 0 rfl) ?_
        refine va_get (D := g) (ci := 6) (v := .ref (ma 2)) (C := RX8) (T := TX8) (N := 13) hx hb hts bgX8 hown hK hP 0 rfl rfl 3 (by decide) (hts _ wd5_21) (fun _ h9 => h9) rfl dX8_about_132 ?_
        refine rd_call (va_runS (As := [.ref (ma 2)]) (rest := []) ⟨hx, hb, hml, hown, hts⟩ (c_X8_meaningless l g cy (ma 2) H.size σ bd hwf) ⟨(cB 1 hts wd24_20 wd1_5 wd24_18 rfl rfl (by decide +kernel) ⟨Nat.le_of_ble_eq_true rfl, Nat.le_of_ble_eq_true rfl⟩), hts _ wd24_19⟩ (ps hK hP hD hS hA hX [2] rfl rfl) rfl rfl hl.1 rfl (lv_room (Nat.le_of_ble_eq_true rfl)) dX8_about_135 ⟨Nat.zero_le _, Nat.zero_le _⟩) ?_
        show W _ _ _ _ _ _ _ _ _ _ _ _ _ _ _ (F0 mX 138 ls [.int (nI (ct (mng σ NN) (σ 1)))])
        exact wr_i (tr, dy, kp, D σ, hp, sp, ou, rkm 0 1 0 (fAbo (nI 9))) (by rw [if_pos c_21, nI_clamp (by decide)]; rfl) ⟨rfl, ⟨hwf, hn14, hdy, hkp, htx, hln⟩⟩ hP hS hx hb hr dX8_about_138 hlk
      · refine lv_tableIn (tgt := 139) (off := 104) hx hb dX8_about_35 (by decide) (by decide) (by decide) (by decide) ?_
        refine lv_aload_n hx hb dX8_about_139 rfl (lv_at hl 0 rfl) ?_
        refine va_get (D := g) (ci := 6) (v := .ref (ma 2)) (C := RX8) (T := TX8) (N := 13) hx hb hts bgX8 hown hK hP 0 rfl rfl 3 (by decide) (hts _ wd5_21) (fun _ h9 => h9) rfl dX8_about_140 ?_
        refine rd_call (va_runS (As := [.ref (ma 2)]) (rest := []) ⟨hx, hb, hml, hown, hts⟩ (c_X8_closedMany l g cy (ma 2) H.size σ bd hwf) ⟨(cB 1 hts wd15_12 wd1_5 wd15_10 rfl rfl (by decide +kernel) ⟨Nat.le_of_ble_eq_true rfl, Nat.le_of_ble_eq_true rfl⟩), hts _ wd15_11⟩ (ps hK hP hD hS hA hX [2] rfl rfl) rfl rfl hl.1 rfl (lv_room (Nat.le_of_ble_eq_true rfl)) dX8_about_143 ⟨Nat.zero_le _, Nat.zero_le _⟩) ?_
        show W _ _ _ _ _ _ _ _ _ _ _ _ _ _ _ (F0 mX 146 ls [.int (nI (ct (cmk σ).testBit 24))])
        exact wr_i (tr, dy, kp, D σ, hp, sp, ou, rkm 0 1 0 (fAbo (nI 10))) (by rw [if_pos c_21, nI_clamp (by decide)]; rfl) ⟨rfl, ⟨hwf, hn14, hdy, hkp, htx, hln⟩⟩ hP hS hx hb hr dX8_about_146 hlk
    · have c_21 := (bI_ne0.mp c_21)
      have c_21 : ¬ fAbo vw = 0 := fun e => by rw [e] at c_21; exact absurd c_21 (by decide)
      refine lv_iconst (v := (nI 0)) hx hb dX8_about_24 (by decide) ?_
      exact wr_i (tr, dy, kp, wy, hp, sp, ou, rkm 0 1 0 (fAbo vw)) (by rw [if_neg c_21]) ⟨rfl, (by skip; exact ⟨hwf, hn14, hdy, hkp, htx, hln⟩)⟩ (by skip; exact hP) hS hx hb hr dX8_about_25 hlk
  · skip
    refine lv_iload_n hx hb dX8_about_1 rfl (lv_at hl 1 rfl) ?_
    refine lv_i2l (v := vw.toInt64) hx hb dX8_about_2 rfl ?_
    refine lv_lconst (v := 0) hx hb dX8_about_3 rfl ?_
    refine lv_ldc2 hx hb hown (hts _ wd24_7) dX8_about_4 ?_
    refine rd_call (va_runS (As := [.long vw.toInt64, .long (0 : Int64), .long (10 : Int64)]) (rest := [.ref (ma 0)]) ⟨hx, hb, hml, hown, hts⟩ (c_X8_in l vw.toInt64 (0 : Int64) (10 : Int64) ) ⟨(cB 3 hts wd7_17 wd1_5 wd7_15 rfl rfl (by decide +kernel) ⟨Nat.le_of_ble_eq_true rfl, Nat.le_of_ble_eq_true rfl⟩), hts _ wd7_16⟩ p0 rfl rfl hl.1 rfl (lv_room (Nat.le_of_ble_eq_true rfl)) dX8_about_7 ⟨Nat.zero_le _, Nat.zero_le _⟩) ?_
    show W _ _ _ _ _ _ _ _ _ _ _ _ _ _ _ (F0 mX 10 ls [.int (bI (inL vw.toInt64 (0 : Int64) (10 : Int64))), .ref (ma 0)])
    refine ti (show (bI (inL vw.toInt64 (0 : Int64) (10 : Int64))) = (bI (inR vw (nI 0) (nI 10))) from (congrArg bI (inL_c (a := 0) (b := 10) (by decide) (by decide)))) ?_
    refine lv_if_eq (tgt := 17) hx hb dX8_about_10 (by decide) (fun c_10 => ?_) (fun c_10 => ?_)
    · have c_10 := (bI_eq0.mp c_10)
      refine lv_iconst (v := (nI 1)) hx hb dX8_about_17 (by decide) ?_
      exact jn18 _ (congrArg nI (by simp [rkm, fAbo, c_10]))
    · have c_10 := (bI_ne0.mp c_10)
      refine lv_iconst (v := (nI 0)) hx hb dX8_about_13 (by decide) ?_
      refine lv_goto (tgt := 18) hx hb dX8_about_14 (by decide) ?_
      exact jn18 _ (congrArg nI (by simp [rkm, fAbo, c_10]))
set_option maxHeartbeats 4000000 in
set_option maxRecDepth 100000 in
theorem c_X8_dogOf (l : Launch) (g : va_G) (cy : Nat → ClassId) (ma : Nat → Nat) (sz : Nat) (bd : Nat) (q : Mc) (σ : Nat → Nat) (Hh : Nat → Nat → Nat) (n : Nat) (K : Nat → Nat → Nat) (fl : Nat → Bool) (tx : Nat → Nat) (ln : Nat) (vd : Int32) (vw : Int32) (hI : mI bd q σ Hh n K fl tx ln) : Met l yX8_dogOf (Cond.code yX8_dogOf cX8_dogOf 7 (some .int) :: wsL_law) ({ frames := 4, cells := 0, slots := 0, locals := 92 } : Room) (va_Pc [.ref (ma 0), .int vd, .int vw] (pr g cy (mQ cy ma q σ n fl tx ln) sz)) (wr_Q (fun _ : Mc => (some (.int (nI (if fDog σ vd vw = 0 then ndg σ vd.toNatClampNeg vw.toNatClampNeg else 0))))) (fun q9 : Mc => q9.2.2.2.2.2.2.2 = rkm 1 2 0 (fDog σ vd vw) ∧ mI bd q9 σ Hh n K fl tx ln) (fun q9 : Mc => mQ cy ma q9 σ n fl tx ln) g (va_A (mQ cy ma q σ n fl tx ln) sz)) 0 0 (va_A (mQ cy ma q σ n fl tx ln) sz) := by
  obtain ⟨tr, dy, kp, wy, hp, sp, ou, rf⟩ := q
  obtain ⟨hwf, hn14, hdy, hkp, htx, hln⟩ := hI
  have hdy : ∀ k, k < n → ∀ j, j < 248 → dy (248 * k + j) = Hh k j := hdy
  have hkp : ∀ k, k < 2 → fl k = true → ∀ j, j < 248 → kp (248 * k + j) = K k j := hkp
  refine mt_of (cc := cX8_dogOf) (maxL := 7) (ret := (some .int)) (by decide +kernel) (Nat.le_of_ble_eq_true rfl) ?_
  intro pX eX s mX below meth cX ls A hx hb hr hml hown hts hlk hin hsz hAe hA hP hD hK hX hl
  subst hsz
  rw [← hAe]
  clear hAe
  have hP : va_P g vwCl [(ma 0, .inr (6, [.int (nI rf), .ref (ma 1), .int (nI ln), .ref (ma 2), .ref (ma 3), .ref (ma 4), .int (nI n), .ref (ma 5), .ref (ma 6), .ref (ma 7), .ref (ma 8), .int (nI sp), .int (nI ou)])), aI cy (ma 1) 120 (mS tx), aI cy (ma 2) 248 (mS σ), aI cy (ma 3) 248 (mS tr), aI cy (ma 4) 3472 (mS dy), aI cy (ma 5) 496 (mS kp), aZ cy (ma 6) 2 (fun j => bI (fl j)), aI cy (ma 7) 144 (mS wy), aI cy (ma 8) 8 (mS hp)] s.heap := hP
  have hD : va_D A [(ma 0, .inr (6, [.int (nI rf), .ref (ma 1), .int (nI ln), .ref (ma 2), .ref (ma 3), .ref (ma 4), .int (nI n), .ref (ma 5), .ref (ma 6), .ref (ma 7), .ref (ma 8), .int (nI sp), .int (nI ou)])), aI cy (ma 1) 120 (mS tx), aI cy (ma 2) 248 (mS σ), aI cy (ma 3) 248 (mS tr), aI cy (ma 4) 3472 (mS dy), aI cy (ma 5) 496 (mS kp), aZ cy (ma 6) 2 (fun j => bI (fl j)), aI cy (ma 7) 144 (mS wy), aI cy (ma 8) 8 (mS hp)] := hD
  have hl : lv_has ls 7 [(0, .ref (ma 0)), (1, .int vd), (2, .int vw)] := hl
  have hS : va_S A s.heap s.heap [] := va_S.rf
  have hn0 := hwf.n0
  have hn1 := hwf.n1
  have hh2 := hwf.h2
  have hfr : fDog σ vd vw = 0 ∨ 0 < rkm 1 2 0 (fDog σ vd vw) := by unfold fDog rkm; (repeat' split) <;> omega
  have hfl9 : rkm 1 2 0 (fDog σ vd vw) < 10 := by unfold rkm; (repeat' split) <;> omega
  refine lv_aload_n hx hb dX8_dogOf_0 rfl (lv_at hl 0 rfl) ?_
  refine jn_i (pcj := 33) (ls := ls) (st := [.ref (ma 0)]) (fun v9 => v9 = (nI (rkm 1 2 0 (fDog σ vd vw)))) ?_ (fun jn33 => ?_)
  · intro v9 hv9
    subst hv9
    refine wr_call (wc := [(ma 0, .inr (6, [.int (nI rf), .ref (ma 1), .int (nI ln), .ref (ma 2), .ref (ma 3), .ref (ma 4), .int (nI n), .ref (ma 5), .ref (ma 6), .ref (ma 7), .ref (ma 8), .int (nI sp), .int (nI ou)]))]) (va_runV (As := [.int (nI (rkm 1 2 0 (fDog σ vd vw)))]) (rest := []) ⟨hx, hb, hml, hown, hts⟩ (c_X8_refused l g cy (ma 0) (ma 1) (ma 2) (ma 3) (ma 4) (ma 5) (ma 6) (ma 7) (ma 8) s.heap.size rf ln n sp ou (rkm 1 2 0 (fDog σ vd vw)) (by omega)) ⟨(cB 1 hts wd7_21 wd1_5 wd7_18 rfl rfl (by decide +kernel) ⟨Nat.le_of_ble_eq_true rfl, Nat.le_of_ble_eq_true rfl⟩), hts _ wd7_19, hts _ wd7_20⟩ (pv hK hP hD hS hA hX [0] rfl rfl 6 0 rfl rfl) rfl rfl hl.1 rfl (lv_room (Nat.le_of_ble_eq_true rfl)) dX8_dogOf_33 ⟨Nat.zero_le _, Nat.zero_le _⟩) hP hD hS hA [0] rfl rfl (fun _ => (rfl : ([ma 0] : List Nat) = [ma 0])) ?_
    rintro _u9 H locs - hP hD hS
    have hP : va_P g vwCl [(ma 0, .inr (6, [.int (nI (rkm 1 2 0 (fDog σ vd vw))), .ref (ma 1), .int (nI ln), .ref (ma 2), .ref (ma 3), .ref (ma 4), .int (nI n), .ref (ma 5), .ref (ma 6), .ref (ma 7), .ref (ma 8), .int (nI sp), .int (nI ou)])), aI cy (ma 1) 120 (mS tx), aI cy (ma 2) 248 (mS σ), aI cy (ma 3) 248 (mS tr), aI cy (ma 4) 3472 (mS dy), aI cy (ma 5) 496 (mS kp), aZ cy (ma 6) 2 (fun j => bI (fl j)), aI cy (ma 7) 144 (mS wy), aI cy (ma 8) 8 (mS hp)] H := hP
    have hD : va_D A [(ma 0, .inr (6, [.int (nI (rkm 1 2 0 (fDog σ vd vw))), .ref (ma 1), .int (nI ln), .ref (ma 2), .ref (ma 3), .ref (ma 4), .int (nI n), .ref (ma 5), .ref (ma 6), .ref (ma 7), .ref (ma 8), .int (nI sp), .int (nI ou)])), aI cy (ma 1) 120 (mS tx), aI cy (ma 2) 248 (mS σ), aI cy (ma 3) 248 (mS tr), aI cy (ma 4) 3472 (mS dy), aI cy (ma 5) 496 (mS kp), aZ cy (ma 6) 2 (fun j => bI (fl j)), aI cy (ma 7) 144 (mS wy), aI cy (ma 8) 8 (mS hp)] := hD
    show W _ _ _ _ _ _ _ _ _ _ _ _ _ _ _ (F0 mX 36 ls [.int (bI (decide (0 < (rkm 1 2 0 (fDog σ vd vw)))))])
    refine lv_if_eq (tgt := 41) hx hb dX8_dogOf_36 (by decide) (fun c_36 => ?_) (fun c_36 => ?_)
    · have c_36 := (bI_eq0.mp c_36)
      have c_36 : fDog σ vd vw = 0 := hfr.resolve_right (of_decide_eq_false c_36)
      obtain ⟨d9, w9, rfl, rfl, hd9, hw9⟩ := fDog_0 hn0 c_36
      refine lv_aload_n hx hb dX8_dogOf_41 rfl (lv_at hl 0 rfl) ?_
      refine lv_aload_n hx hb dX8_dogOf_42 rfl (lv_at hl 0 rfl) ?_
      refine va_get (D := g) (ci := 6) (v := .ref (ma 2)) (C := RX8) (T := TX8) (N := 13) hx hb hts bgX8 hown hK hP 0 rfl rfl 3 (by decide) (hts _ wd5_21) (fun _ h9 => h9) rfl dX8_dogOf_43 ?_
      refine wr_call (wc := [(ma 0, .inr (6, [.int (nI (rkm 1 2 0 (fDog σ (nI d9) (nI w9)))), .ref (ma 1), .int (nI ln), .ref (ma 2), .ref (ma 3), .ref (ma 4), .int (nI n), .ref (ma 5), .ref (ma 6), .ref (ma 7), .ref (ma 8), .int (nI sp), .int (nI ou)])), aI cy (ma 7) 144 (mS wy), aI cy (ma 2) 248 (mS σ)]) (va_runV (As := [.ref (ma 2)]) (rest := []) ⟨hx, hb, hml, hown, hts⟩ (c_X8_measure l g cy (ma 0) (ma 1) (ma 2) (ma 3) (ma 4) (ma 5) (ma 6) (ma 7) (ma 8) (ma 2) H.size (rkm 1 2 0 (fDog σ (nI d9) (nI w9))) ln n sp ou wy σ bd hwf) ⟨(cB 1 hts wd13_20 wd1_5 wd13_17 rfl rfl (by decide +kernel) ⟨Nat.le_of_ble_eq_true rfl, Nat.le_of_ble_eq_true rfl⟩), hts _ wd13_18, hts _ wd13_19⟩ (pv hK hP hD hS hA hX [0, 7, 2] rfl rfl 6 0 rfl rfl) rfl rfl hl.1 rfl (lv_room (Nat.le_of_ble_eq_true rfl)) dX8_dogOf_46 ⟨Nat.zero_le _, Nat.zero_le _⟩) hP hD hS hA [0, 7, 2] rfl rfl (fun _ => (rfl : ([ma 0, ma 7, ma 2] : List Nat) = [ma 0, ma 7, ma 2])) ?_
      rintro _u9 H locs - hP hD hS
      have hP : va_P g vwCl [(ma 0, .inr (6, [.int (nI (rkm 1 2 0 (fDog σ (nI d9) (nI w9)))), .ref (ma 1), .int (nI ln), .ref (ma 2), .ref (ma 3), .ref (ma 4), .int (nI n), .ref (ma 5), .ref (ma 6), .ref (ma 7), .ref (ma 8), .int (nI sp), .int (nI ou)])), aI cy (ma 1) 120 (mS tx), aI cy (ma 2) 248 (mS σ), aI cy (ma 3) 248 (mS tr), aI cy (ma 4) 3472 (mS dy), aI cy (ma 5) 496 (mS kp), aZ cy (ma 6) 2 (fun j => bI (fl j)), aI cy (ma 7) 144 (mS (D σ)), aI cy (ma 8) 8 (mS hp)] H := hP
      have hD : va_D A [(ma 0, .inr (6, [.int (nI (rkm 1 2 0 (fDog σ (nI d9) (nI w9)))), .ref (ma 1), .int (nI ln), .ref (ma 2), .ref (ma 3), .ref (ma 4), .int (nI n), .ref (ma 5), .ref (ma 6), .ref (ma 7), .ref (ma 8), .int (nI sp), .int (nI ou)])), aI cy (ma 1) 120 (mS tx), aI cy (ma 2) 248 (mS σ), aI cy (ma 3) 248 (mS tr), aI cy (ma 4) 3472 (mS dy), aI cy (ma 5) 496 (mS kp), aZ cy (ma 6) 2 (fun j => bI (fl j)), aI cy (ma 7) 144 (mS (D σ)), aI cy (ma 8) 8 (mS hp)] := hD
      show W _ _ _ _ _ _ _ _ _ _ _ _ _ _ _ (F0 mX 49 ls [])
      refine lv_iconst (v := (nI 0)) hx hb dX8_dogOf_49 (by decide) ?_
      refine lv_istore_n (lv' := [(3, .int (nI 0)), (0, .ref (ma 0)), (1, .int (nI d9)), (2, .int (nI w9))]) hx hb dX8_dogOf_50 rfl hl (by decide) rfl (fun ls hl => ?_)
      refine lv_iconst (v := (nI 0)) hx hb dX8_dogOf_51 (by decide) ?_
      refine lv_istore (lv' := [(4, .int (nI 0)), (3, .int (nI 0)), (0, .ref (ma 0)), (1, .int (nI d9)), (2, .int (nI w9))]) hx hb dX8_dogOf_52 hl (by decide) rfl (fun ls hl => ?_)
      refine lv_iconst (v := (nI 0)) hx hb dX8_dogOf_54 (by decide) ?_
      refine lv_istore (lv' := [(5, .int (nI 0)), (4, .int (nI 0)), (3, .int (nI 0)), (0, .ref (ma 0)), (1, .int (nI d9)), (2, .int (nI w9))]) hx hb dX8_dogOf_55 hl (by decide) rfl (fun ls hl => ?_)
      have hl : lv_has ls 7 [(5, .int (nI 0)), (4, .int (nI 0)), (3, .int (nI (ct (mng σ d9) 0))), (0, .ref (ma 0)), (1, .int (nI d9)), (2, .int (nI w9))] := by rw [← show (nI 0) = (nI (ct (mng σ d9) 0)) from rfl]; exact hl
      have hl : lv_has ls 7 [(5, .int (nI 0)), (4, .int (nI (ct (hon σ d9) 0))), (3, .int (nI (ct (mng σ d9) 0))), (0, .ref (ma 0)), (1, .int (nI d9)), (2, .int (nI w9))] := by rw [← show (nI 0) = (nI (ct (hon σ d9) 0)) from rfl]; exact hl
      refine lp_rd (σ := (Nat)) (fun x9 ls9 => lv_has ls9 7 [(0, .ref (ma 0)), (1, .int (nI d9)), (2, .int (nI w9)), (3, .int (nI (ct (mng σ d9) x9))), (4, .int (nI (ct (hon σ d9) x9))), (5, .int (nI x9))] ∧ (x9 ≤ σ 1)) (fun x9 => σ 1 - x9) (0) ⟨lv_sub hl [3, 4, 5, 2, 1, 0] rfl, (by omega)⟩ ?_
      rintro i ls ⟨hl, hi⟩ ih57
      try dsimp only at hl hi ih57
      refine lv_iload hx hb dX8_dogOf_57 (lv_at hl 5 rfl) ?_
      refine lv_aload_n hx hb dX8_dogOf_59 rfl (lv_at hl 0 rfl) ?_
      refine va_get (D := g) (ci := 6) (v := .ref (ma 2)) (C := RX8) (T := TX8) (N := 13) hx hb hts bgX8 hown hK hP 0 rfl rfl 3 (by decide) (hts _ wd5_21) (fun _ h9 => h9) rfl dX8_dogOf_60 ?_
      refine lv_iconst (v := (nI 1)) hx hb dX8_dogOf_63 (by decide) ?_
      refine va_iald hx hb hK hP 2 0 rfl rfl (vp_in_nI (n := 1) (by omega) (by omega)) dX8_dogOf_64 ?_
      refine ti (show (mS σ) (nI 1).toNatClampNeg = nI (σ 1) from by rw [nI_clamp (by omega)]; rfl) ?_
      refine lv_icmp_ge (tgt := 136) hx hb dX8_dogOf_65 (by decide) (fun c_65 => ?_) (fun c_65 => ?_)
      · have c_65 := (nc_le (by omega) (by omega) c_65)
        have e9 : i = σ 1 := by omega
        subst e9
        have hdb := hwf.db hd9
        refine lv_iload_n hx hb dX8_dogOf_136 rfl (lv_at hl 2 rfl) ?_
        rcases (show w9 = 0 ∨ w9 = 1 ∨ w9 = 2 ∨ w9 = 3 ∨ w9 = 4 ∨ w9 = 5 ∨ w9 = 6 ∨ w9 = 7 ∨ w9 = 8 ∨ w9 = 9 ∨ w9 = 10 by omega) with rfl | rfl | rfl | rfl | rfl | rfl | rfl | rfl | rfl | rfl | rfl
        · refine lv_tableOut (tgt := 210) hx hb dX8_dogOf_137 (by decide) (by decide) ?_
          refine lv_aload_n hx hb dX8_dogOf_210 rfl (lv_at hl 0 rfl) ?_
          refine va_get (D := g) (ci := 6) (v := .ref (ma 2)) (C := RX8) (T := TX8) (N := 13) hx hb hts bgX8 hown hK hP 0 rfl rfl 3 (by decide) (hts _ wd5_21) (fun _ h9 => h9) rfl dX8_dogOf_211 ?_
          refine lv_iload_n hx hb dX8_dogOf_214 rfl (lv_at hl 1 rfl) ?_
          refine lv_iload_n hx hb dX8_dogOf_215 rfl (lv_at hl 2 rfl) ?_
          refine rd_call (va_runS (As := [.ref (ma 2), .int (nI d9), .int (nI 0)]) (rest := []) ⟨hx, hb, hml, hown, hts⟩ (c_X8_ofDog l g cy (ma 2) H.size σ d9 0 (by omega) (by omega)) ⟨(cB 3 hts wd12_23 wd1_5 wd12_21 rfl rfl (by decide +kernel) ⟨Nat.le_of_ble_eq_true rfl, Nat.le_of_ble_eq_true rfl⟩), hts _ wd12_22⟩ (ps hK hP hD hS hA hX [2] rfl rfl) rfl rfl hl.1 rfl (lv_room (Nat.le_of_ble_eq_true rfl)) dX8_dogOf_216 ⟨Nat.zero_le _, Nat.zero_le _⟩) ?_
          show W _ _ _ _ _ _ _ _ _ _ _ _ _ _ _ (F0 mX 219 ls [.int (nI (dg σ d9 0))])
          exact wr_i (tr, dy, kp, D σ, hp, sp, ou, rkm 1 2 0 (fDog σ (nI d9) (nI 0))) (by rw [if_pos c_36, nI_clamp (by omega), nI_clamp (by decide)]; rfl) ⟨rfl, ⟨hwf, hn14, hdy, hkp, htx, hln⟩⟩ hP hS hx hb hr dX8_dogOf_219 hlk
        · refine lv_tableOut (tgt := 210) hx hb dX8_dogOf_137 (by decide) (by decide) ?_
          refine lv_aload_n hx hb dX8_dogOf_210 rfl (lv_at hl 0 rfl) ?_
          refine va_get (D := g) (ci := 6) (v := .ref (ma 2)) (C := RX8) (T := TX8) (N := 13) hx hb hts bgX8 hown hK hP 0 rfl rfl 3 (by decide) (hts _ wd5_21) (fun _ h9 => h9) rfl dX8_dogOf_211 ?_
          refine lv_iload_n hx hb dX8_dogOf_214 rfl (lv_at hl 1 rfl) ?_
          refine lv_iload_n hx hb dX8_dogOf_215 rfl (lv_at hl 2 rfl) ?_
          refine rd_call (va_runS (As := [.ref (ma 2), .int (nI d9), .int (nI 1)]) (rest := []) ⟨hx, hb, hml, hown, hts⟩ (c_X8_ofDog l g cy (ma 2) H.size σ d9 1 (by omega) (by omega)) ⟨(cB 3 hts wd12_23 wd1_5 wd12_21 rfl rfl (by decide +kernel) ⟨Nat.le_of_ble_eq_true rfl, Nat.le_of_ble_eq_true rfl⟩), hts _ wd12_22⟩ (ps hK hP hD hS hA hX [2] rfl rfl) rfl rfl hl.1 rfl (lv_room (Nat.le_of_ble_eq_true rfl)) dX8_dogOf_216 ⟨Nat.zero_le _, Nat.zero_le _⟩) ?_
          show W _ _ _ _ _ _ _ _ _ _ _ _ _ _ _ (F0 mX 219 ls [.int (nI (dg σ d9 1))])
          exact wr_i (tr, dy, kp, D σ, hp, sp, ou, rkm 1 2 0 (fDog σ (nI d9) (nI 1))) (by rw [if_pos c_36, nI_clamp (by omega), nI_clamp (by decide)]; rfl) ⟨rfl, ⟨hwf, hn14, hdy, hkp, htx, hln⟩⟩ hP hS hx hb hr dX8_dogOf_219 hlk
        · refine lv_tableOut (tgt := 210) hx hb dX8_dogOf_137 (by decide) (by decide) ?_
          refine lv_aload_n hx hb dX8_dogOf_210 rfl (lv_at hl 0 rfl) ?_
          refine va_get (D := g) (ci := 6) (v := .ref (ma 2)) (C := RX8) (T := TX8) (N := 13) hx hb hts bgX8 hown hK hP 0 rfl rfl 3 (by decide) (hts _ wd5_21) (fun _ h9 => h9) rfl dX8_dogOf_211 ?_
          refine lv_iload_n hx hb dX8_dogOf_214 rfl (lv_at hl 1 rfl) ?_
          refine lv_iload_n hx hb dX8_dogOf_215 rfl (lv_at hl 2 rfl) ?_
          refine rd_call (va_runS (As := [.ref (ma 2), .int (nI d9), .int (nI 2)]) (rest := []) ⟨hx, hb, hml, hown, hts⟩ (c_X8_ofDog l g cy (ma 2) H.size σ d9 2 (by omega) (by omega)) ⟨(cB 3 hts wd12_23 wd1_5 wd12_21 rfl rfl (by decide +kernel) ⟨Nat.le_of_ble_eq_true rfl, Nat.le_of_ble_eq_true rfl⟩), hts _ wd12_22⟩ (ps hK hP hD hS hA hX [2] rfl rfl) rfl rfl hl.1 rfl (lv_room (Nat.le_of_ble_eq_true rfl)) dX8_dogOf_216 ⟨Nat.zero_le _, Nat.zero_le _⟩) ?_
          show W _ _ _ _ _ _ _ _ _ _ _ _ _ _ _ (F0 mX 219 ls [.int (nI (dg σ d9 2))])
          exact wr_i (tr, dy, kp, D σ, hp, sp, ou, rkm 1 2 0 (fDog σ (nI d9) (nI 2))) (by rw [if_pos c_36, nI_clamp (by omega), nI_clamp (by decide)]; rfl) ⟨rfl, ⟨hwf, hn14, hdy, hkp, htx, hln⟩⟩ hP hS hx hb hr dX8_dogOf_219 hlk
        · refine lv_tableOut (tgt := 210) hx hb dX8_dogOf_137 (by decide) (by decide) ?_
          refine lv_aload_n hx hb dX8_dogOf_210 rfl (lv_at hl 0 rfl) ?_
          refine va_get (D := g) (ci := 6) (v := .ref (ma 2)) (C := RX8) (T := TX8) (N := 13) hx hb hts bgX8 hown hK hP 0 rfl rfl 3 (by decide) (hts _ wd5_21) (fun _ h9 => h9) rfl dX8_dogOf_211 ?_
          refine lv_iload_n hx hb dX8_dogOf_214 rfl (lv_at hl 1 rfl) ?_
          refine lv_iload_n hx hb dX8_dogOf_215 rfl (lv_at hl 2 rfl) ?_
          refine rd_call (va_runS (As := [.ref (ma 2), .int (nI d9), .int (nI 3)]) (rest := []) ⟨hx, hb, hml, hown, hts⟩ (c_X8_ofDog l g cy (ma 2) H.size σ d9 3 (by omega) (by omega)) ⟨(cB 3 hts wd12_23 wd1_5 wd12_21 rfl rfl (by decide +kernel) ⟨Nat.le_of_ble_eq_true rfl, Nat.le_of_ble_eq_true rfl⟩), hts _ wd12_22⟩ (ps hK hP hD hS hA hX [2] rfl rfl) rfl rfl hl.1 rfl (lv_room (Nat.le_of_ble_eq_true rfl)) dX8_dogOf_216 ⟨Nat.zero_le _, Nat.zero_le _⟩) ?_
          show W _ _ _ _ _ _ _ _ _ _ _ _ _ _ _ (F0 mX 219 ls [.int (nI (dg σ d9 3))])
          exact wr_i (tr, dy, kp, D σ, hp, sp, ou, rkm 1 2 0 (fDog σ (nI d9) (nI 3))) (by rw [if_pos c_36, nI_clamp (by omega), nI_clamp (by decide)]; rfl) ⟨rfl, ⟨hwf, hn14, hdy, hkp, htx, hln⟩⟩ hP hS hx hb hr dX8_dogOf_219 hlk
        · refine lv_tableOut (tgt := 210) hx hb dX8_dogOf_137 (by decide) (by decide) ?_
          refine lv_aload_n hx hb dX8_dogOf_210 rfl (lv_at hl 0 rfl) ?_
          refine va_get (D := g) (ci := 6) (v := .ref (ma 2)) (C := RX8) (T := TX8) (N := 13) hx hb hts bgX8 hown hK hP 0 rfl rfl 3 (by decide) (hts _ wd5_21) (fun _ h9 => h9) rfl dX8_dogOf_211 ?_
          refine lv_iload_n hx hb dX8_dogOf_214 rfl (lv_at hl 1 rfl) ?_
          refine lv_iload_n hx hb dX8_dogOf_215 rfl (lv_at hl 2 rfl) ?_
          refine rd_call (va_runS (As := [.ref (ma 2), .int (nI d9), .int (nI 4)]) (rest := []) ⟨hx, hb, hml, hown, hts⟩ (c_X8_ofDog l g cy (ma 2) H.size σ d9 4 (by omega) (by omega)) ⟨(cB 3 hts wd12_23 wd1_5 wd12_21 rfl rfl (by decide +kernel) ⟨Nat.le_of_ble_eq_true rfl, Nat.le_of_ble_eq_true rfl⟩), hts _ wd12_22⟩ (ps hK hP hD hS hA hX [2] rfl rfl) rfl rfl hl.1 rfl (lv_room (Nat.le_of_ble_eq_true rfl)) dX8_dogOf_216 ⟨Nat.zero_le _, Nat.zero_le _⟩) ?_
          show W _ _ _ _ _ _ _ _ _ _ _ _ _ _ _ (F0 mX 219 ls [.int (nI (dg σ d9 4))])
          exact wr_i (tr, dy, kp, D σ, hp, sp, ou, rkm 1 2 0 (fDog σ (nI d9) (nI 4))) (by rw [if_pos c_36, nI_clamp (by omega), nI_clamp (by decide)]; rfl) ⟨rfl, ⟨hwf, hn14, hdy, hkp, htx, hln⟩⟩ hP hS hx hb hr dX8_dogOf_219 hlk
        · refine lv_tableIn (tgt := 176) (off := 39) hx hb dX8_dogOf_137 (by decide) (by decide) (by decide) (by decide) ?_
          refine lv_aload_n hx hb dX8_dogOf_176 rfl (lv_at hl 0 rfl) ?_
          refine va_get (D := g) (ci := 6) (v := .ref (ma 2)) (C := RX8) (T := TX8) (N := 13) hx hb hts bgX8 hown hK hP 0 rfl rfl 3 (by decide) (hts _ wd5_21) (fun _ h9 => h9) rfl dX8_dogOf_177 ?_
          refine lv_iload_n hx hb dX8_dogOf_180 rfl (lv_at hl 1 rfl) ?_
          refine rd_call (va_runS (As := [.ref (ma 2), .int (nI d9)]) (rest := []) ⟨hx, hb, hml, hown, hts⟩ (c_X8_isMissing l g cy (ma 2) H.size σ d9 (by omega) (by omega)) ⟨(cB 2 hts wd12_20 wd1_5 wd12_18 rfl rfl (by decide +kernel) ⟨Nat.le_of_ble_eq_true rfl, Nat.le_of_ble_eq_true rfl⟩), hts _ wd12_19⟩ (ps hK hP hD hS hA hX [2] rfl rfl) rfl rfl hl.1 rfl (lv_room (Nat.le_of_ble_eq_true rfl)) dX8_dogOf_181 ⟨Nat.zero_le _, Nat.zero_le _⟩) ?_
          show W _ _ _ _ _ _ _ _ _ _ _ _ _ _ _ (F0 mX 184 ls [.int (bI (msg σ d9))])
          refine lv_if_eq (tgt := 191) hx hb dX8_dogOf_184 (by decide) (fun c_184 => ?_) (fun c_184 => ?_)
          · have c_184 := (bI_eq0.mp c_184)
            refine lv_iconst (v := (nI 0)) hx hb dX8_dogOf_191 (by decide) ?_
            exact wr_i (tr, dy, kp, D σ, hp, sp, ou, rkm 1 2 0 (fDog σ (nI d9) (nI 5))) (by rw [if_pos c_36, nI_clamp (by omega), nI_clamp (by decide)]; simp [ndg, c_184]) ⟨rfl, ⟨hwf, hn14, hdy, hkp, htx, hln⟩⟩ hP hS hx hb hr dX8_dogOf_192 hlk
          · have c_184 := (bI_ne0.mp c_184)
            refine lv_iconst (v := (nI 1)) hx hb dX8_dogOf_187 (by decide) ?_
            refine lv_goto (tgt := 192) hx hb dX8_dogOf_188 (by decide) ?_
            exact wr_i (tr, dy, kp, D σ, hp, sp, ou, rkm 1 2 0 (fDog σ (nI d9) (nI 5))) (by rw [if_pos c_36, nI_clamp (by omega), nI_clamp (by decide)]; simp [ndg, c_184]) ⟨rfl, ⟨hwf, hn14, hdy, hkp, htx, hln⟩⟩ hP hS hx hb hr dX8_dogOf_192 hlk
        · refine lv_tableIn (tgt := 193) (off := 56) hx hb dX8_dogOf_137 (by decide) (by decide) (by decide) (by decide) ?_
          refine lv_iload_n hx hb dX8_dogOf_193 rfl (lv_at hl 3 rfl) ?_
          exact wr_i (tr, dy, kp, D σ, hp, sp, ou, rkm 1 2 0 (fDog σ (nI d9) (nI 6))) (by rw [if_pos c_36, nI_clamp (by omega), nI_clamp (by decide)]; rfl) ⟨rfl, ⟨hwf, hn14, hdy, hkp, htx, hln⟩⟩ hP hS hx hb hr dX8_dogOf_194 hlk
        · refine lv_tableIn (tgt := 195) (off := 58) hx hb dX8_dogOf_137 (by decide) (by decide) (by decide) (by decide) ?_
          refine lv_iload hx hb dX8_dogOf_195 (lv_at hl 4 rfl) ?_
          exact wr_i (tr, dy, kp, D σ, hp, sp, ou, rkm 1 2 0 (fDog σ (nI d9) (nI 7))) (by rw [if_pos c_36, nI_clamp (by omega), nI_clamp (by decide)]; rfl) ⟨rfl, ⟨hwf, hn14, hdy, hkp, htx, hln⟩⟩ hP hS hx hb hr dX8_dogOf_197 hlk
        · refine lv_tableIn (tgt := 198) (off := 61) hx hb dX8_dogOf_137 (by decide) (by decide) (by decide) (by decide) ?_
          refine lv_aload_n hx hb dX8_dogOf_198 rfl (lv_at hl 0 rfl) ?_
          refine va_get (D := g) (ci := 6) (v := .ref (ma 2)) (C := RX8) (T := TX8) (N := 13) hx hb hts bgX8 hown hK hP 0 rfl rfl 3 (by decide) (hts _ wd5_21) (fun _ h9 => h9) rfl dX8_dogOf_199 ?_
          refine lv_iload_n hx hb dX8_dogOf_202 rfl (lv_at hl 1 rfl) ?_
          refine lv_iload_n hx hb dX8_dogOf_203 rfl (lv_at hl 2 rfl) ?_
          refine lv_iconst (v := (nI 3)) hx hb dX8_dogOf_204 (by decide) ?_
          refine lv_isub hx hb dX8_dogOf_205 ?_
          refine ti (show ((nI 8) - (nI 3)) = (nI 5) from (by decide)) ?_
          refine rd_call (va_runS (As := [.ref (ma 2), .int (nI d9), .int (nI 5)]) (rest := []) ⟨hx, hb, hml, hown, hts⟩ (c_X8_ofDog l g cy (ma 2) H.size σ d9 5 (by omega) (by omega)) ⟨(cB 3 hts wd12_23 wd1_5 wd12_21 rfl rfl (by decide +kernel) ⟨Nat.le_of_ble_eq_true rfl, Nat.le_of_ble_eq_true rfl⟩), hts _ wd12_22⟩ (ps hK hP hD hS hA hX [2] rfl rfl) rfl rfl hl.1 rfl (lv_room (Nat.le_of_ble_eq_true rfl)) dX8_dogOf_206 ⟨Nat.zero_le _, Nat.zero_le _⟩) ?_
          show W _ _ _ _ _ _ _ _ _ _ _ _ _ _ _ (F0 mX 209 ls [.int (nI (dg σ d9 5))])
          exact wr_i (tr, dy, kp, D σ, hp, sp, ou, rkm 1 2 0 (fDog σ (nI d9) (nI 8))) (by rw [if_pos c_36, nI_clamp (by omega), nI_clamp (by decide)]; rfl) ⟨rfl, ⟨hwf, hn14, hdy, hkp, htx, hln⟩⟩ hP hS hx hb hr dX8_dogOf_209 hlk
        · refine lv_tableIn (tgt := 198) (off := 61) hx hb dX8_dogOf_137 (by decide) (by decide) (by decide) (by decide) ?_
          refine lv_aload_n hx hb dX8_dogOf_198 rfl (lv_at hl 0 rfl) ?_
          refine va_get (D := g) (ci := 6) (v := .ref (ma 2)) (C := RX8) (T := TX8) (N := 13) hx hb hts bgX8 hown hK hP 0 rfl rfl 3 (by decide) (hts _ wd5_21) (fun _ h9 => h9) rfl dX8_dogOf_199 ?_
          refine lv_iload_n hx hb dX8_dogOf_202 rfl (lv_at hl 1 rfl) ?_
          refine lv_iload_n hx hb dX8_dogOf_203 rfl (lv_at hl 2 rfl) ?_
          refine lv_iconst (v := (nI 3)) hx hb dX8_dogOf_204 (by decide) ?_
          refine lv_isub hx hb dX8_dogOf_205 ?_
          refine ti (show ((nI 9) - (nI 3)) = (nI 6) from (by decide)) ?_
          refine rd_call (va_runS (As := [.ref (ma 2), .int (nI d9), .int (nI 6)]) (rest := []) ⟨hx, hb, hml, hown, hts⟩ (c_X8_ofDog l g cy (ma 2) H.size σ d9 6 (by omega) (by omega)) ⟨(cB 3 hts wd12_23 wd1_5 wd12_21 rfl rfl (by decide +kernel) ⟨Nat.le_of_ble_eq_true rfl, Nat.le_of_ble_eq_true rfl⟩), hts _ wd12_22⟩ (ps hK hP hD hS hA hX [2] rfl rfl) rfl rfl hl.1 rfl (lv_room (Nat.le_of_ble_eq_true rfl)) dX8_dogOf_206 ⟨Nat.zero_le _, Nat.zero_le _⟩) ?_
          show W _ _ _ _ _ _ _ _ _ _ _ _ _ _ _ (F0 mX 209 ls [.int (nI (dg σ d9 6))])
          exact wr_i (tr, dy, kp, D σ, hp, sp, ou, rkm 1 2 0 (fDog σ (nI d9) (nI 9))) (by rw [if_pos c_36, nI_clamp (by omega), nI_clamp (by decide)]; rfl) ⟨rfl, ⟨hwf, hn14, hdy, hkp, htx, hln⟩⟩ hP hS hx hb hr dX8_dogOf_209 hlk
        · refine lv_tableIn (tgt := 198) (off := 61) hx hb dX8_dogOf_137 (by decide) (by decide) (by decide) (by decide) ?_
          refine lv_aload_n hx hb dX8_dogOf_198 rfl (lv_at hl 0 rfl) ?_
          refine va_get (D := g) (ci := 6) (v := .ref (ma 2)) (C := RX8) (T := TX8) (N := 13) hx hb hts bgX8 hown hK hP 0 rfl rfl 3 (by decide) (hts _ wd5_21) (fun _ h9 => h9) rfl dX8_dogOf_199 ?_
          refine lv_iload_n hx hb dX8_dogOf_202 rfl (lv_at hl 1 rfl) ?_
          refine lv_iload_n hx hb dX8_dogOf_203 rfl (lv_at hl 2 rfl) ?_
          refine lv_iconst (v := (nI 3)) hx hb dX8_dogOf_204 (by decide) ?_
          refine lv_isub hx hb dX8_dogOf_205 ?_
          refine ti (show ((nI 10) - (nI 3)) = (nI 7) from (by decide)) ?_
          refine rd_call (va_runS (As := [.ref (ma 2), .int (nI d9), .int (nI 7)]) (rest := []) ⟨hx, hb, hml, hown, hts⟩ (c_X8_ofDog l g cy (ma 2) H.size σ d9 7 (by omega) (by omega)) ⟨(cB 3 hts wd12_23 wd1_5 wd12_21 rfl rfl (by decide +kernel) ⟨Nat.le_of_ble_eq_true rfl, Nat.le_of_ble_eq_true rfl⟩), hts _ wd12_22⟩ (ps hK hP hD hS hA hX [2] rfl rfl) rfl rfl hl.1 rfl (lv_room (Nat.le_of_ble_eq_true rfl)) dX8_dogOf_206 ⟨Nat.zero_le _, Nat.zero_le _⟩) ?_
          show W _ _ _ _ _ _ _ _ _ _ _ _ _ _ _ (F0 mX 209 ls [.int (nI (dg σ d9 7))])
          exact wr_i (tr, dy, kp, D σ, hp, sp, ou, rkm 1 2 0 (fDog σ (nI d9) (nI 10))) (by rw [if_pos c_36, nI_clamp (by omega), nI_clamp (by decide)]; rfl) ⟨rfl, ⟨hwf, hn14, hdy, hkp, htx, hln⟩⟩ hP hS hx hb hr dX8_dogOf_209 hlk
      · have c_65 := (nc_nle (by omega) (by omega) c_65)
        have hsb := hwf.sb (show i < σ 1 by omega)
        have hdb := hwf.db hd9
        refine jn_i (pcj := 87) (ls := ls) (st := []) (fun v9 => v9 = (bI (mng σ d9 i))) ?_ (fun jn87 => ?_)
        · intro v9 hv9
          subst hv9
          refine lv_istore (lv' := [(6, .int (bI (mng σ d9 i))), (0, .ref (ma 0)), (1, .int (nI d9)), (2, .int (nI w9)), (3, .int (nI (ct (mng σ d9) i))), (4, .int (nI (ct (hon σ d9) i))), (5, .int (nI i))]) hx hb dX8_dogOf_87 hl (by decide) rfl (fun ls hl => ?_)
          refine lv_iload_n hx hb dX8_dogOf_89 rfl (lv_at hl 4 rfl) ?_
          refine lv_iload hx hb dX8_dogOf_90 (lv_at hl 0 rfl) ?_
          refine lv_if_eq (tgt := 99) hx hb dX8_dogOf_92 (by decide) (fun c_92 => ?_) (fun c_92 => ?_)
          · have c_92 := (bI_eq0.mp c_92)
            refine lv_iconst (v := (nI 0)) hx hb dX8_dogOf_99 (by decide) ?_
            refine lv_iadd hx hb dX8_dogOf_100 ?_
            refine ti (nI_add (ct (mng σ d9) i) 0) ?_
            refine lv_istore_n (lv' := [(3, .int (nI ((ct (mng σ d9) i) + 0))), (6, .int (bI (mng σ d9 i))), (0, .ref (ma 0)), (1, .int (nI d9)), (2, .int (nI w9)), (4, .int (nI (ct (hon σ d9) i))), (5, .int (nI i))]) hx hb dX8_dogOf_101 rfl hl (by decide) rfl (fun ls hl => ?_)
            refine lv_iload hx hb dX8_dogOf_102 (lv_at hl 5 rfl) ?_
            refine lv_iload hx hb dX8_dogOf_104 (lv_at hl 1 rfl) ?_
            refine lv_if_eq (tgt := 126) hx hb dX8_dogOf_106 (by decide) (fun c_106 => ?_) (fun c_106 => ?_)
            · have c_106 := (bI_eq0.mp c_106)
              refine lv_iconst (v := (nI 0)) hx hb dX8_dogOf_126 (by decide) ?_
              refine lv_iadd hx hb dX8_dogOf_127 ?_
              refine ti (nI_add (ct (hon σ d9) i) 0) ?_
              refine lv_istore (lv' := [(4, .int (nI ((ct (hon σ d9) i) + 0))), (3, .int (nI ((ct (mng σ d9) i) + 0))), (6, .int (bI (mng σ d9 i))), (0, .ref (ma 0)), (1, .int (nI d9)), (2, .int (nI w9)), (5, .int (nI i))]) hx hb dX8_dogOf_128 hl (by decide) rfl (fun ls hl => ?_)
              have hl : lv_has ls 7 [(4, .int (nI ((ct (hon σ d9) i) + 0))), (3, .int (nI (ct (mng σ d9) (i + 1)))), (6, .int (bI (mng σ d9 i))), (0, .ref (ma 0)), (1, .int (nI d9)), (2, .int (nI w9)), (5, .int (nI i))] := by rw [← show (nI ((ct (mng σ d9) i) + 0)) = (nI (ct (mng σ d9) (i + 1))) from (congrArg nI (by simp [ct, c_92]))]; exact hl
              have hl : lv_has ls 7 [(4, .int (nI (ct (hon σ d9) (i + 1)))), (3, .int (nI (ct (mng σ d9) (i + 1)))), (6, .int (bI (mng σ d9 i))), (0, .ref (ma 0)), (1, .int (nI d9)), (2, .int (nI w9)), (5, .int (nI i))] := by rw [← show (nI ((ct (hon σ d9) i) + 0)) = (nI (ct (hon σ d9) (i + 1))) from (congrArg nI (by simp [ct, hon, c_106]))]; exact hl
              refine lv_iinc (v := (nI (i + 1))) (lv' := [(5, .int (nI (i + 1))), (4, .int (nI (ct (hon σ d9) (i + 1)))), (3, .int (nI (ct (mng σ d9) (i + 1)))), (6, .int (bI (mng σ d9 i))), (0, .ref (ma 0)), (1, .int (nI d9)), (2, .int (nI w9))]) hx hb dX8_dogOf_130 hl (k := 6) rfl (nI_add i 1) (by decide) rfl (fun ls hl => ?_)
              refine lv_goto (tgt := 57) hx hb dX8_dogOf_133 (by decide) ?_
              exact ih57 (i + 1) ls ⟨lv_sub hl [4, 5, 6, 2, 1, 0] rfl, (by omega)⟩ (by first | omega | (dsimp only; omega))
            · have c_106 := (bI_ne0.mp c_106)
              refine lv_aload_n hx hb dX8_dogOf_109 rfl (lv_at hl 2 rfl) ?_
              refine lv_aload_n hx hb dX8_dogOf_110 rfl (lv_at hl 2 rfl) ?_
              refine va_get (D := g) (ci := 6) (v := .ref (ma 2)) (C := RX8) (T := TX8) (N := 13) hx hb hts bgX8 hown hK hP 0 rfl rfl 3 (by decide) (hts _ wd5_21) (fun _ h9 => h9) rfl dX8_dogOf_111 ?_
              refine lv_iload hx hb dX8_dogOf_114 (lv_at hl 6 rfl) ?_
              refine rd_call (va_runV (As := [.ref (ma 2), .int (nI i)]) (rest := [.int (nI (ct (hon σ d9) i))]) ⟨hx, hb, hml, hown, hts⟩ (c_X8_isFraud l g cy (ma 0) (ma 1) (ma 2) (ma 3) (ma 4) (ma 5) (ma 6) (ma 7) (ma 8) (ma 2) H.size (rkm 1 2 0 (fDog σ (nI d9) (nI w9))) ln n sp ou (D σ) σ bd i hwf (fun _ _ => rfl) (by omega)) ⟨(cB 2 hts wd14_10 wd1_5 wd14_7 rfl rfl (by decide +kernel) ⟨Nat.le_of_ble_eq_true rfl, Nat.le_of_ble_eq_true rfl⟩), hts _ wd14_8, hts _ wd14_9⟩ (pv hK hP hD hS hA hX [0, 7, 2] rfl rfl 6 0 rfl rfl) rfl rfl hl.1 rfl (lv_room (Nat.le_of_ble_eq_true rfl)) dX8_dogOf_116 ⟨Nat.zero_le _, Nat.zero_le _⟩) ?_
              show W _ _ _ _ _ _ _ _ _ _ _ _ _ _ _ (F0 mX 119 ls [.int (bI (frd σ i)), .int (nI (ct (hon σ d9) i))])
              refine lv_if_ne (tgt := 126) hx hb dX8_dogOf_119 (by decide) (fun c_119 => ?_) (fun c_119 => ?_)
              · have c_119 := (bI_ne0.mp c_119)
                refine lv_iconst (v := (nI 0)) hx hb dX8_dogOf_126 (by decide) ?_
                refine lv_iadd hx hb dX8_dogOf_127 ?_
                refine ti (nI_add (ct (hon σ d9) i) 0) ?_
                refine lv_istore (lv' := [(4, .int (nI ((ct (hon σ d9) i) + 0))), (3, .int (nI ((ct (mng σ d9) i) + 0))), (6, .int (bI (mng σ d9 i))), (0, .ref (ma 0)), (1, .int (nI d9)), (2, .int (nI w9)), (5, .int (nI i))]) hx hb dX8_dogOf_128 hl (by decide) rfl (fun ls hl => ?_)
                have hl : lv_has ls 7 [(4, .int (nI ((ct (hon σ d9) i) + 0))), (3, .int (nI (ct (mng σ d9) (i + 1)))), (6, .int (bI (mng σ d9 i))), (0, .ref (ma 0)), (1, .int (nI d9)), (2, .int (nI w9)), (5, .int (nI i))] := by rw [← show (nI ((ct (mng σ d9) i) + 0)) = (nI (ct (mng σ d9) (i + 1))) from (congrArg nI (by simp [ct, c_92]))]; exact hl
                have hl : lv_has ls 7 [(4, .int (nI (ct (hon σ d9) (i + 1)))), (3, .int (nI (ct (mng σ d9) (i + 1)))), (6, .int (bI (mng σ d9 i))), (0, .ref (ma 0)), (1, .int (nI d9)), (2, .int (nI w9)), (5, .int (nI i))] := by rw [← show (nI ((ct (hon σ d9) i) + 0)) = (nI (ct (hon σ d9) (i + 1))) from (congrArg nI (by simp [ct, hon, c_106, c_119]))]; exact hl
                refine lv_iinc (v := (nI (i + 1))) (lv' := [(5, .int (nI (i + 1))), (4, .int (nI (ct (hon σ d9) (i + 1)))), (3, .int (nI (ct (mng σ d9) (i + 1)))), (6, .int (bI (mng σ d9 i))), (0, .ref (ma 0)), (1, .int (nI d9)), (2, .int (nI w9))]) hx hb dX8_dogOf_130 hl (k := 6) rfl (nI_add i 1) (by decide) rfl (fun ls hl => ?_)
                refine lv_goto (tgt := 57) hx hb dX8_dogOf_133 (by decide) ?_
                exact ih57 (i + 1) ls ⟨lv_sub hl [4, 5, 6, 2, 1, 0] rfl, (by omega)⟩ (by first | omega | (dsimp only; omega))
              · have c_119 := (bI_eq0.mp c_119)
                refine lv_iconst (v := (nI 1)) hx hb dX8_dogOf_122 (by decide) ?_
                refine lv_goto (tgt := 127) hx hb dX8_dogOf_123 (by decide) ?_
                refine lv_iadd hx hb dX8_dogOf_127 ?_
                refine ti (nI_add (ct (hon σ d9) i) 1) ?_
                refine lv_istore (lv' := [(4, .int (nI ((ct (hon σ d9) i) + 1))), (3, .int (nI ((ct (mng σ d9) i) + 0))), (6, .int (bI (mng σ d9 i))), (0, .ref (ma 0)), (1, .int (nI d9)), (2, .int (nI w9)), (5, .int (nI i))]) hx hb dX8_dogOf_128 hl (by decide) rfl (fun ls hl => ?_)
                have hl : lv_has ls 7 [(4, .int (nI ((ct (hon σ d9) i) + 1))), (3, .int (nI (ct (mng σ d9) (i + 1)))), (6, .int (bI (mng σ d9 i))), (0, .ref (ma 0)), (1, .int (nI d9)), (2, .int (nI w9)), (5, .int (nI i))] := by rw [← show (nI ((ct (mng σ d9) i) + 0)) = (nI (ct (mng σ d9) (i + 1))) from (congrArg nI (by simp [ct, c_92]))]; exact hl
                have hl : lv_has ls 7 [(4, .int (nI (ct (hon σ d9) (i + 1)))), (3, .int (nI (ct (mng σ d9) (i + 1)))), (6, .int (bI (mng σ d9 i))), (0, .ref (ma 0)), (1, .int (nI d9)), (2, .int (nI w9)), (5, .int (nI i))] := by rw [← show (nI ((ct (hon σ d9) i) + 1)) = (nI (ct (hon σ d9) (i + 1))) from (congrArg nI (by simp [ct, hon, c_106, c_119]))]; exact hl
                refine lv_iinc (v := (nI (i + 1))) (lv' := [(5, .int (nI (i + 1))), (4, .int (nI (ct (hon σ d9) (i + 1)))), (3, .int (nI (ct (mng σ d9) (i + 1)))), (6, .int (bI (mng σ d9 i))), (0, .ref (ma 0)), (1, .int (nI d9)), (2, .int (nI w9))]) hx hb dX8_dogOf_130 hl (k := 6) rfl (nI_add i 1) (by decide) rfl (fun ls hl => ?_)
                refine lv_goto (tgt := 57) hx hb dX8_dogOf_133 (by decide) ?_
                exact ih57 (i + 1) ls ⟨lv_sub hl [4, 5, 6, 2, 1, 0] rfl, (by omega)⟩ (by first | omega | (dsimp only; omega))
          · have c_92 := (bI_ne0.mp c_92)
            refine lv_iconst (v := (nI 1)) hx hb dX8_dogOf_95 (by decide) ?_
            refine lv_goto (tgt := 100) hx hb dX8_dogOf_96 (by decide) ?_
            refine lv_iadd hx hb dX8_dogOf_100 ?_
            refine ti (nI_add (ct (mng σ d9) i) 1) ?_
            refine lv_istore_n (lv' := [(3, .int (nI ((ct (mng σ d9) i) + 1))), (6, .int (bI (mng σ d9 i))), (0, .ref (ma 0)), (1, .int (nI d9)), (2, .int (nI w9)), (4, .int (nI (ct (hon σ d9) i))), (5, .int (nI i))]) hx hb dX8_dogOf_101 rfl hl (by decide) rfl (fun ls hl => ?_)
            refine lv_iload hx hb dX8_dogOf_102 (lv_at hl 5 rfl) ?_
            refine lv_iload hx hb dX8_dogOf_104 (lv_at hl 1 rfl) ?_
            refine lv_if_eq (tgt := 126) hx hb dX8_dogOf_106 (by decide) (fun c_106 => ?_) (fun c_106 => ?_)
            · have c_106 := (bI_eq0.mp c_106)
              refine lv_iconst (v := (nI 0)) hx hb dX8_dogOf_126 (by decide) ?_
              refine lv_iadd hx hb dX8_dogOf_127 ?_
              refine ti (nI_add (ct (hon σ d9) i) 0) ?_
              refine lv_istore (lv' := [(4, .int (nI ((ct (hon σ d9) i) + 0))), (3, .int (nI ((ct (mng σ d9) i) + 1))), (6, .int (bI (mng σ d9 i))), (0, .ref (ma 0)), (1, .int (nI d9)), (2, .int (nI w9)), (5, .int (nI i))]) hx hb dX8_dogOf_128 hl (by decide) rfl (fun ls hl => ?_)
              have hl : lv_has ls 7 [(4, .int (nI ((ct (hon σ d9) i) + 0))), (3, .int (nI (ct (mng σ d9) (i + 1)))), (6, .int (bI (mng σ d9 i))), (0, .ref (ma 0)), (1, .int (nI d9)), (2, .int (nI w9)), (5, .int (nI i))] := by rw [← show (nI ((ct (mng σ d9) i) + 1)) = (nI (ct (mng σ d9) (i + 1))) from (congrArg nI (by simp [ct, c_92]))]; exact hl
              have hl : lv_has ls 7 [(4, .int (nI (ct (hon σ d9) (i + 1)))), (3, .int (nI (ct (mng σ d9) (i + 1)))), (6, .int (bI (mng σ d9 i))), (0, .ref (ma 0)), (1, .int (nI d9)), (2, .int (nI w9)), (5, .int (nI i))] := by rw [← show (nI ((ct (hon σ d9) i) + 0)) = (nI (ct (hon σ d9) (i + 1))) from (congrArg nI (by simp [ct, hon, c_106]))]; exact hl
              refine lv_iinc (v := (nI (i + 1))) (lv' := [(5, .int (nI (i + 1))), (4, .int (nI (ct (hon σ d9) (i + 1)))), (3, .int (nI (ct (mng σ d9) (i + 1)))), (6, .int (bI (mng σ d9 i))), (0, .ref (ma 0)), (1, .int (nI d9)), (2, .int (nI w9))]) hx hb dX8_dogOf_130 hl (k := 6) rfl (nI_add i 1) (by decide) rfl (fun ls hl => ?_)
              refine lv_goto (tgt := 57) hx hb dX8_dogOf_133 (by decide) ?_
              exact ih57 (i + 1) ls ⟨lv_sub hl [4, 5, 6, 2, 1, 0] rfl, (by omega)⟩ (by first | omega | (dsimp only; omega))
            · have c_106 := (bI_ne0.mp c_106)
              refine lv_aload_n hx hb dX8_dogOf_109 rfl (lv_at hl 2 rfl) ?_
              refine lv_aload_n hx hb dX8_dogOf_110 rfl (lv_at hl 2 rfl) ?_
              refine va_get (D := g) (ci := 6) (v := .ref (ma 2)) (C := RX8) (T := TX8) (N := 13) hx hb hts bgX8 hown hK hP 0 rfl rfl 3 (by decide) (hts _ wd5_21) (fun _ h9 => h9) rfl dX8_dogOf_111 ?_
              refine lv_iload hx hb dX8_dogOf_114 (lv_at hl 6 rfl) ?_
              refine rd_call (va_runV (As := [.ref (ma 2), .int (nI i)]) (rest := [.int (nI (ct (hon σ d9) i))]) ⟨hx, hb, hml, hown, hts⟩ (c_X8_isFraud l g cy (ma 0) (ma 1) (ma 2) (ma 3) (ma 4) (ma 5) (ma 6) (ma 7) (ma 8) (ma 2) H.size (rkm 1 2 0 (fDog σ (nI d9) (nI w9))) ln n sp ou (D σ) σ bd i hwf (fun _ _ => rfl) (by omega)) ⟨(cB 2 hts wd14_10 wd1_5 wd14_7 rfl rfl (by decide +kernel) ⟨Nat.le_of_ble_eq_true rfl, Nat.le_of_ble_eq_true rfl⟩), hts _ wd14_8, hts _ wd14_9⟩ (pv hK hP hD hS hA hX [0, 7, 2] rfl rfl 6 0 rfl rfl) rfl rfl hl.1 rfl (lv_room (Nat.le_of_ble_eq_true rfl)) dX8_dogOf_116 ⟨Nat.zero_le _, Nat.zero_le _⟩) ?_
              show W _ _ _ _ _ _ _ _ _ _ _ _ _ _ _ (F0 mX 119 ls [.int (bI (frd σ i)), .int (nI (ct (hon σ d9) i))])
              refine lv_if_ne (tgt := 126) hx hb dX8_dogOf_119 (by decide) (fun c_119 => ?_) (fun c_119 => ?_)
              · have c_119 := (bI_ne0.mp c_119)
                refine lv_iconst (v := (nI 0)) hx hb dX8_dogOf_126 (by decide) ?_
                refine lv_iadd hx hb dX8_dogOf_127 ?_
                refine ti (nI_add (ct (hon σ d9) i) 0) ?_
                refine lv_istore (lv' := [(4, .int (nI ((ct (hon σ d9) i) + 0))), (3, .int (nI ((ct (mng σ d9) i) + 1))), (6, .int (bI (mng σ d9 i))), (0, .ref (ma 0)), (1, .int (nI d9)), (2, .int (nI w9)), (5, .int (nI i))]) hx hb dX8_dogOf_128 hl (by decide) rfl (fun ls hl => ?_)
                have hl : lv_has ls 7 [(4, .int (nI ((ct (hon σ d9) i) + 0))), (3, .int (nI (ct (mng σ d9) (i + 1)))), (6, .int (bI (mng σ d9 i))), (0, .ref (ma 0)), (1, .int (nI d9)), (2, .int (nI w9)), (5, .int (nI i))] := by rw [← show (nI ((ct (mng σ d9) i) + 1)) = (nI (ct (mng σ d9) (i + 1))) from (congrArg nI (by simp [ct, c_92]))]; exact hl
                have hl : lv_has ls 7 [(4, .int (nI (ct (hon σ d9) (i + 1)))), (3, .int (nI (ct (mng σ d9) (i + 1)))), (6, .int (bI (mng σ d9 i))), (0, .ref (ma 0)), (1, .int (nI d9)), (2, .int (nI w9)), (5, .int (nI i))] := by rw [← show (nI ((ct (hon σ d9) i) + 0)) = (nI (ct (hon σ d9) (i + 1))) from (congrArg nI (by simp [ct, hon, c_106, c_119]))]; exact hl
                refine lv_iinc (v := (nI (i + 1))) (lv' := [(5, .int (nI (i + 1))), (4, .int (nI (ct (hon σ d9) (i + 1)))), (3, .int (nI (ct (mng σ d9) (i + 1)))), (6, .int (bI (mng σ d9 i))), (0, .ref (ma 0)), (1, .int (nI d9)), (2, .int (nI w9))]) hx hb dX8_dogOf_130 hl (k := 6) rfl (nI_add i 1) (by decide) rfl (fun ls hl => ?_)
                refine lv_goto (tgt := 57) hx hb dX8_dogOf_133 (by decide) ?_
                exact ih57 (i + 1) ls ⟨lv_sub hl [4, 5, 6, 2, 1, 0] rfl, (by omega)⟩ (by first | omega | (dsimp only; omega))
              · have c_119 := (bI_eq0.mp c_119)
                refine lv_iconst (v := (nI 1)) hx hb dX8_dogOf_122 (by decide) ?_
                refine lv_goto (tgt := 127) hx hb dX8_dogOf_123 (by decide) ?_
                refine lv_iadd hx hb dX8_dogOf_127 ?_
                refine ti (nI_add (ct (hon σ d9) i) 1) ?_
                refine lv_istore (lv' := [(4, .int (nI ((ct (hon σ d9) i) + 1))), (3, .int (nI ((ct (mng σ d9) i) + 1))), (6, .int (bI (mng σ d9 i))), (0, .ref (ma 0)), (1, .int (nI d9)), (2, .int (nI w9)), (5, .int (nI i))]) hx hb dX8_dogOf_128 hl (by decide) rfl (fun ls hl => ?_)
                have hl : lv_has ls 7 [(4, .int (nI ((ct (hon σ d9) i) + 1))), (3, .int (nI (ct (mng σ d9) (i + 1)))), (6, .int (bI (mng σ d9 i))), (0, .ref (ma 0)), (1, .int (nI d9)), (2, .int (nI w9)), (5, .int (nI i))] := by rw [← show (nI ((ct (mng σ d9) i) + 1)) = (nI (ct (mng σ d9) (i + 1))) from (congrArg nI (by simp [ct, c_92]))]; exact hl
                have hl : lv_has ls 7 [(4, .int (nI (ct (hon σ d9) (i + 1)))), (3, .int (nI (ct (mng σ d9) (i + 1)))), (6, .int (bI (mng σ d9 i))), (0, .ref (ma 0)), (1, .int (nI d9)), (2, .int (nI w9)), (5, .int (nI i))] := by rw [← show (nI ((ct (hon σ d9) i) + 1)) = (nI (ct (hon σ d9) (i + 1))) from (congrArg nI (by simp [ct, hon, c_106, c_119]))]; exact hl
                refine lv_iinc (v := (nI (i + 1))) (lv' := [(5, .int (nI (i + 1))), (4, .int (nI (ct (hon σ d9) (i + 1)))), (3, .int (nI (ct (mng σ d9) (i + 1)))), (6, .int (bI (mng σ d9 i))), (0, .ref (ma 0)), (1, .int (nI d9)), (2, .int (nI w9))]) hx hb dX8_dogOf_130 hl (k := 6) rfl (nI_add i 1) (by decide) rfl (fun ls hl => ?_)
                refine lv_goto (tgt := 57) hx hb dX8_dogOf_133 (by decide) ?_
                exact ih57 (i + 1) ls ⟨lv_sub hl [4, 5, 6, 2, 1, 0] rfl, (by omega)⟩ (by first | omega | (dsimp only; omega))
        · skip
          have hsb := hwf.sb (show i < σ 1 by omega)
          have hdb := hwf.db hd9
          refine lv_aload_n hx hb dX8_dogOf_68 rfl (lv_at hl 0 rfl) ?_
          refine va_get (D := g) (ci := 6) (v := .ref (ma 2)) (C := RX8) (T := TX8) (N := 13) hx hb hts bgX8 hown hK hP 0 rfl rfl 3 (by decide) (hts _ wd5_21) (fun _ h9 => h9) rfl dX8_dogOf_69 ?_
          refine lv_iload hx hb dX8_dogOf_72 (lv_at hl 5 rfl) ?_
          refine lv_iconst (v := (nI 5)) hx hb dX8_dogOf_74 (by decide) ?_
          refine rd_call (va_runS (As := [.ref (ma 2), .int (nI i), .int (nI 5)]) (rest := []) ⟨hx, hb, hml, hown, hts⟩ (c_X8_ofSight l g cy (ma 2) H.size σ i 5 (by omega) (by omega)) ⟨(cB 3 hts wd14_6 wd1_5 wd14_4 rfl rfl (by decide +kernel) ⟨Nat.le_of_ble_eq_true rfl, Nat.le_of_ble_eq_true rfl⟩), hts _ wd14_5⟩ (ps hK hP hD hS hA hX [2] rfl rfl) rfl rfl hl.1 rfl (lv_room (Nat.le_of_ble_eq_true rfl)) dX8_dogOf_75 ⟨Nat.zero_le _, Nat.zero_le _⟩) ?_
          show W _ _ _ _ _ _ _ _ _ _ _ _ _ _ _ (F0 mX 78 ls [.int (nI (sg σ i 5))])
          refine lv_iload_n hx hb dX8_dogOf_78 rfl (lv_at hl 1 rfl) ?_
          refine lv_icmp_ne (tgt := 86) hx hb dX8_dogOf_79 (by decide) (fun c_79 => ?_) (fun c_79 => ?_)
          · have c_79 := (nc_ne9 (by omega) (by omega) c_79)
            refine lv_iconst (v := (nI 0)) hx hb dX8_dogOf_86 (by decide) ?_
            exact jn87 _ (by simp [mng, bI, nI_0, nI_o, c_79])
          · have c_79 := (nc_eq9 (by omega) (by omega) c_79)
            refine lv_iconst (v := (nI 1)) hx hb dX8_dogOf_82 (by decide) ?_
            refine lv_goto (tgt := 87) hx hb dX8_dogOf_83 (by decide) ?_
            exact jn87 _ (by simp [mng, bI, nI_0, nI_o, c_79])
    · have c_36 := (bI_ne0.mp c_36)
      have c_36 : ¬ fDog σ vd vw = 0 := fun e => by rw [e] at c_36; exact absurd c_36 (by decide)
      refine lv_iconst (v := (nI 0)) hx hb dX8_dogOf_39 (by decide) ?_
      exact wr_i (tr, dy, kp, wy, hp, sp, ou, rkm 1 2 0 (fDog σ vd vw)) (by rw [if_neg c_36]) ⟨rfl, (by skip; exact ⟨hwf, hn14, hdy, hkp, htx, hln⟩)⟩ (by skip; exact hP) hS hx hb hr dX8_dogOf_40 hlk
  · skip
    refine lv_aload_n hx hb dX8_dogOf_1 rfl (lv_at hl 0 rfl) ?_
    refine va_get (D := g) (ci := 6) (v := .ref (ma 2)) (C := RX8) (T := TX8) (N := 13) hx hb hts bgX8 hown hK hP 0 rfl rfl 3 (by decide) (hts _ wd5_21) (fun _ h9 => h9) rfl dX8_dogOf_2 ?_
    refine lv_iload_n hx hb dX8_dogOf_5 rfl (lv_at hl 1 rfl) ?_
    refine rd_call (va_runS (As := [.ref (ma 2), .int vd]) (rest := [.ref (ma 0)]) ⟨hx, hb, hml, hown, hts⟩ (c_X8_isDog l g cy (ma 2) s.heap.size σ vd (by omega)) ⟨(cB 2 hts wd13_12 wd1_5 wd13_10 rfl rfl (by decide +kernel) ⟨Nat.le_of_ble_eq_true rfl, Nat.le_of_ble_eq_true rfl⟩), hts _ wd13_11⟩ (ps hK hP hD hS hA hX [2] rfl rfl) rfl rfl hl.1 rfl (lv_room (Nat.le_of_ble_eq_true rfl)) dX8_dogOf_6 ⟨Nat.zero_le _, Nat.zero_le _⟩) ?_
    show W _ _ _ _ _ _ _ _ _ _ _ _ _ _ _ (F0 mX 9 ls [.int (bI (hasR (σ 0) vd)), .ref (ma 0)])
    refine lv_if_ne (tgt := 16) hx hb dX8_dogOf_9 (by decide) (fun c_9 => ?_) (fun c_9 => ?_)
    · have c_9 := (bI_ne0.mp c_9)
      refine lv_iload_n hx hb dX8_dogOf_16 rfl (lv_at hl 2 rfl) ?_
      refine lv_i2l (v := vw.toInt64) hx hb dX8_dogOf_17 rfl ?_
      refine lv_lconst (v := 0) hx hb dX8_dogOf_18 rfl ?_
      refine lv_ldc2 hx hb hown (hts _ wd24_7) dX8_dogOf_19 ?_
      refine rd_call (va_runS (As := [.long vw.toInt64, .long (0 : Int64), .long (10 : Int64)]) (rest := [.ref (ma 0)]) ⟨hx, hb, hml, hown, hts⟩ (c_X8_in l vw.toInt64 (0 : Int64) (10 : Int64) ) ⟨(cB 3 hts wd7_17 wd1_5 wd7_15 rfl rfl (by decide +kernel) ⟨Nat.le_of_ble_eq_true rfl, Nat.le_of_ble_eq_true rfl⟩), hts _ wd7_16⟩ p0 rfl rfl hl.1 rfl (lv_room (Nat.le_of_ble_eq_true rfl)) dX8_dogOf_22 ⟨Nat.zero_le _, Nat.zero_le _⟩) ?_
      show W _ _ _ _ _ _ _ _ _ _ _ _ _ _ _ (F0 mX 25 ls [.int (bI (inL vw.toInt64 (0 : Int64) (10 : Int64))), .ref (ma 0)])
      refine ti (show (bI (inL vw.toInt64 (0 : Int64) (10 : Int64))) = (bI (inR vw (nI 0) (nI 10))) from (congrArg bI (inL_c (a := 0) (b := 10) (by decide) (by decide)))) ?_
      refine lv_if_eq (tgt := 32) hx hb dX8_dogOf_25 (by decide) (fun c_25 => ?_) (fun c_25 => ?_)
      · have c_25 := (bI_eq0.mp c_25)
        refine lv_iconst (v := (nI 2)) hx hb dX8_dogOf_32 (by decide) ?_
        exact jn33 _ (congrArg nI (by simp [rkm, fDog, c_9, c_25]))
      · have c_25 := (bI_ne0.mp c_25)
        refine lv_iconst (v := (nI 0)) hx hb dX8_dogOf_28 (by decide) ?_
        refine lv_goto (tgt := 33) hx hb dX8_dogOf_29 (by decide) ?_
        exact jn33 _ (congrArg nI (by simp [rkm, fDog, c_9, c_25]))
    · have c_9 := (bI_eq0.mp c_9)
      refine lv_iconst (v := (nI 1)) hx hb dX8_dogOf_12 (by decide) ?_
      refine lv_goto (tgt := 33) hx hb dX8_dogOf_13 (by decide) ?_
      exact jn33 _ (congrArg nI (by simp [rkm, fDog, c_9]))
set_option maxHeartbeats 4000000 in
set_option maxRecDepth 100000 in
theorem c_X8_sightingOf (l : Launch) (g : va_G) (cy : Nat → ClassId) (ma : Nat → Nat) (sz : Nat) (bd : Nat) (q : Mc) (σ : Nat → Nat) (Hh : Nat → Nat → Nat) (n : Nat) (K : Nat → Nat → Nat) (fl : Nat → Bool) (tx : Nat → Nat) (ln : Nat) (vs : Int32) (vw : Int32) (hI : mI bd q σ Hh n K fl tx ln) : Met l yX8_sightingOf (Cond.code yX8_sightingOf cX8_sightingOf 4 (some .int) :: wsL_law) ({ frames := 4, cells := 0, slots := 0, locals := 92 } : Room) (va_Pc [.ref (ma 0), .int vs, .int vw] (pr g cy (mQ cy ma q σ n fl tx ln) sz)) (wr_Q (fun _ : Mc => (some (.int (nI (if fSig σ vs vw = 0 then nsg σ vs.toNatClampNeg vw.toNatClampNeg else 0))))) (fun q9 : Mc => q9.2.2.2.2.2.2.2 = rkm 1 2 0 (fSig σ vs vw) ∧ mI bd q9 σ Hh n K fl tx ln) (fun q9 : Mc => mQ cy ma q9 σ n fl tx ln) g (va_A (mQ cy ma q σ n fl tx ln) sz)) 0 0 (va_A (mQ cy ma q σ n fl tx ln) sz) := by
  obtain ⟨tr, dy, kp, wy, hp, sp, ou, rf⟩ := q
  obtain ⟨hwf, hn14, hdy, hkp, htx, hln⟩ := hI
  have hdy : ∀ k, k < n → ∀ j, j < 248 → dy (248 * k + j) = Hh k j := hdy
  have hkp : ∀ k, k < 2 → fl k = true → ∀ j, j < 248 → kp (248 * k + j) = K k j := hkp
  refine mt_of (cc := cX8_sightingOf) (maxL := 4) (ret := (some .int)) (by decide +kernel) (Nat.le_of_ble_eq_true rfl) ?_
  intro pX eX s mX below meth cX ls A hx hb hr hml hown hts hlk hin hsz hAe hA hP hD hK hX hl
  subst hsz
  rw [← hAe]
  clear hAe
  have hP : va_P g vwCl [(ma 0, .inr (6, [.int (nI rf), .ref (ma 1), .int (nI ln), .ref (ma 2), .ref (ma 3), .ref (ma 4), .int (nI n), .ref (ma 5), .ref (ma 6), .ref (ma 7), .ref (ma 8), .int (nI sp), .int (nI ou)])), aI cy (ma 1) 120 (mS tx), aI cy (ma 2) 248 (mS σ), aI cy (ma 3) 248 (mS tr), aI cy (ma 4) 3472 (mS dy), aI cy (ma 5) 496 (mS kp), aZ cy (ma 6) 2 (fun j => bI (fl j)), aI cy (ma 7) 144 (mS wy), aI cy (ma 8) 8 (mS hp)] s.heap := hP
  have hD : va_D A [(ma 0, .inr (6, [.int (nI rf), .ref (ma 1), .int (nI ln), .ref (ma 2), .ref (ma 3), .ref (ma 4), .int (nI n), .ref (ma 5), .ref (ma 6), .ref (ma 7), .ref (ma 8), .int (nI sp), .int (nI ou)])), aI cy (ma 1) 120 (mS tx), aI cy (ma 2) 248 (mS σ), aI cy (ma 3) 248 (mS tr), aI cy (ma 4) 3472 (mS dy), aI cy (ma 5) 496 (mS kp), aZ cy (ma 6) 2 (fun j => bI (fl j)), aI cy (ma 7) 144 (mS wy), aI cy (ma 8) 8 (mS hp)] := hD
  have hl : lv_has ls 4 [(0, .ref (ma 0)), (1, .int vs), (2, .int vw)] := hl
  have hS : va_S A s.heap s.heap [] := va_S.rf
  have hn0 := hwf.n0
  have hn1 := hwf.n1
  have hh2 := hwf.h2
  have hfr : fSig σ vs vw = 0 ∨ 0 < rkm 1 2 0 (fSig σ vs vw) := by unfold fSig rkm; (repeat' split) <;> omega
  have hfl9 : rkm 1 2 0 (fSig σ vs vw) < 10 := by unfold rkm; (repeat' split) <;> omega
  refine lv_aload_n hx hb dX8_sightingOf_0 rfl (lv_at hl 0 rfl) ?_
  refine jn_i (pcj := 40) (ls := ls) (st := [.ref (ma 0)]) (fun v9 => v9 = (nI (rkm 1 2 0 (fSig σ vs vw)))) ?_ (fun jn40 => ?_)
  · intro v9 hv9
    subst hv9
    refine wr_call (wc := [(ma 0, .inr (6, [.int (nI rf), .ref (ma 1), .int (nI ln), .ref (ma 2), .ref (ma 3), .ref (ma 4), .int (nI n), .ref (ma 5), .ref (ma 6), .ref (ma 7), .ref (ma 8), .int (nI sp), .int (nI ou)]))]) (va_runV (As := [.int (nI (rkm 1 2 0 (fSig σ vs vw)))]) (rest := []) ⟨hx, hb, hml, hown, hts⟩ (c_X8_refused l g cy (ma 0) (ma 1) (ma 2) (ma 3) (ma 4) (ma 5) (ma 6) (ma 7) (ma 8) s.heap.size rf ln n sp ou (rkm 1 2 0 (fSig σ vs vw)) (by omega)) ⟨(cB 1 hts wd7_21 wd1_5 wd7_18 rfl rfl (by decide +kernel) ⟨Nat.le_of_ble_eq_true rfl, Nat.le_of_ble_eq_true rfl⟩), hts _ wd7_19, hts _ wd7_20⟩ (pv hK hP hD hS hA hX [0] rfl rfl 6 0 rfl rfl) rfl rfl hl.1 rfl (lv_room (Nat.le_of_ble_eq_true rfl)) dX8_sightingOf_40 ⟨Nat.zero_le _, Nat.zero_le _⟩) hP hD hS hA [0] rfl rfl (fun _ => (rfl : ([ma 0] : List Nat) = [ma 0])) ?_
    rintro _u9 H locs - hP hD hS
    have hP : va_P g vwCl [(ma 0, .inr (6, [.int (nI (rkm 1 2 0 (fSig σ vs vw))), .ref (ma 1), .int (nI ln), .ref (ma 2), .ref (ma 3), .ref (ma 4), .int (nI n), .ref (ma 5), .ref (ma 6), .ref (ma 7), .ref (ma 8), .int (nI sp), .int (nI ou)])), aI cy (ma 1) 120 (mS tx), aI cy (ma 2) 248 (mS σ), aI cy (ma 3) 248 (mS tr), aI cy (ma 4) 3472 (mS dy), aI cy (ma 5) 496 (mS kp), aZ cy (ma 6) 2 (fun j => bI (fl j)), aI cy (ma 7) 144 (mS wy), aI cy (ma 8) 8 (mS hp)] H := hP
    have hD : va_D A [(ma 0, .inr (6, [.int (nI (rkm 1 2 0 (fSig σ vs vw))), .ref (ma 1), .int (nI ln), .ref (ma 2), .ref (ma 3), .ref (ma 4), .int (nI n), .ref (ma 5), .ref (ma 6), .ref (ma 7), .ref (ma 8), .int (nI sp), .int (nI ou)])), aI cy (ma 1) 120 (mS tx), aI cy (ma 2) 248 (mS σ), aI cy (ma 3) 248 (mS tr), aI cy (ma 4) 3472 (mS dy), aI cy (ma 5) 496 (mS kp), aZ cy (ma 6) 2 (fun j => bI (fl j)), aI cy (ma 7) 144 (mS wy), aI cy (ma 8) 8 (mS hp)] := hD
    show W _ _ _ _ _ _ _ _ _ _ _ _ _ _ _ (F0 mX 43 ls [.int (bI (decide (0 < (rkm 1 2 0 (fSig σ vs vw)))))])
    refine lv_if_eq (tgt := 48) hx hb dX8_sightingOf_43 (by decide) (fun c_43 => ?_) (fun c_43 => ?_)
    · have c_43 := (bI_eq0.mp c_43)
      have c_43 : fSig σ vs vw = 0 := hfr.resolve_right (of_decide_eq_false c_43)
      obtain ⟨s9, w9, rfl, rfl, hs9, hw9⟩ := fSig_0 hn1 c_43
      have hsb := hwf.sb hs9
      refine lv_aload_n hx hb dX8_sightingOf_48 rfl (lv_at hl 0 rfl) ?_
      refine lv_aload_n hx hb dX8_sightingOf_49 rfl (lv_at hl 0 rfl) ?_
      refine va_get (D := g) (ci := 6) (v := .ref (ma 2)) (C := RX8) (T := TX8) (N := 13) hx hb hts bgX8 hown hK hP 0 rfl rfl 3 (by decide) (hts _ wd5_21) (fun _ h9 => h9) rfl dX8_sightingOf_50 ?_
      refine wr_call (wc := [(ma 0, .inr (6, [.int (nI (rkm 1 2 0 (fSig σ (nI s9) (nI w9)))), .ref (ma 1), .int (nI ln), .ref (ma 2), .ref (ma 3), .ref (ma 4), .int (nI n), .ref (ma 5), .ref (ma 6), .ref (ma 7), .ref (ma 8), .int (nI sp), .int (nI ou)])), aI cy (ma 7) 144 (mS wy), aI cy (ma 2) 248 (mS σ)]) (va_runV (As := [.ref (ma 2)]) (rest := []) ⟨hx, hb, hml, hown, hts⟩ (c_X8_measure l g cy (ma 0) (ma 1) (ma 2) (ma 3) (ma 4) (ma 5) (ma 6) (ma 7) (ma 8) (ma 2) H.size (rkm 1 2 0 (fSig σ (nI s9) (nI w9))) ln n sp ou wy σ bd hwf) ⟨(cB 1 hts wd13_20 wd1_5 wd13_17 rfl rfl (by decide +kernel) ⟨Nat.le_of_ble_eq_true rfl, Nat.le_of_ble_eq_true rfl⟩), hts _ wd13_18, hts _ wd13_19⟩ (pv hK hP hD hS hA hX [0, 7, 2] rfl rfl 6 0 rfl rfl) rfl rfl hl.1 rfl (lv_room (Nat.le_of_ble_eq_true rfl)) dX8_sightingOf_53 ⟨Nat.zero_le _, Nat.zero_le _⟩) hP hD hS hA [0, 7, 2] rfl rfl (fun _ => (rfl : ([ma 0, ma 7, ma 2] : List Nat) = [ma 0, ma 7, ma 2])) ?_
      rintro _u9 H locs - hP hD hS
      have hP : va_P g vwCl [(ma 0, .inr (6, [.int (nI (rkm 1 2 0 (fSig σ (nI s9) (nI w9)))), .ref (ma 1), .int (nI ln), .ref (ma 2), .ref (ma 3), .ref (ma 4), .int (nI n), .ref (ma 5), .ref (ma 6), .ref (ma 7), .ref (ma 8), .int (nI sp), .int (nI ou)])), aI cy (ma 1) 120 (mS tx), aI cy (ma 2) 248 (mS σ), aI cy (ma 3) 248 (mS tr), aI cy (ma 4) 3472 (mS dy), aI cy (ma 5) 496 (mS kp), aZ cy (ma 6) 2 (fun j => bI (fl j)), aI cy (ma 7) 144 (mS (D σ)), aI cy (ma 8) 8 (mS hp)] H := hP
      have hD : va_D A [(ma 0, .inr (6, [.int (nI (rkm 1 2 0 (fSig σ (nI s9) (nI w9)))), .ref (ma 1), .int (nI ln), .ref (ma 2), .ref (ma 3), .ref (ma 4), .int (nI n), .ref (ma 5), .ref (ma 6), .ref (ma 7), .ref (ma 8), .int (nI sp), .int (nI ou)])), aI cy (ma 1) 120 (mS tx), aI cy (ma 2) 248 (mS σ), aI cy (ma 3) 248 (mS tr), aI cy (ma 4) 3472 (mS dy), aI cy (ma 5) 496 (mS kp), aZ cy (ma 6) 2 (fun j => bI (fl j)), aI cy (ma 7) 144 (mS (D σ)), aI cy (ma 8) 8 (mS hp)] := hD
      show W _ _ _ _ _ _ _ _ _ _ _ _ _ _ _ (F0 mX 56 ls [])
      refine lv_aload_n hx hb dX8_sightingOf_56 rfl (lv_at hl 0 rfl) ?_
      refine va_get (D := g) (ci := 6) (v := .ref (ma 2)) (C := RX8) (T := TX8) (N := 13) hx hb hts bgX8 hown hK hP 0 rfl rfl 3 (by decide) (hts _ wd5_21) (fun _ h9 => h9) rfl dX8_sightingOf_57 ?_
      refine lv_iload_n hx hb dX8_sightingOf_60 rfl (lv_at hl 1 rfl) ?_
      refine lv_iconst (v := (nI 5)) hx hb dX8_sightingOf_61 (by decide) ?_
      refine rd_call (va_runS (As := [.ref (ma 2), .int (nI s9), .int (nI 5)]) (rest := []) ⟨hx, hb, hml, hown, hts⟩ (c_X8_ofSight l g cy (ma 2) H.size σ s9 5 (by omega) (by omega)) ⟨(cB 3 hts wd14_6 wd1_5 wd14_4 rfl rfl (by decide +kernel) ⟨Nat.le_of_ble_eq_true rfl, Nat.le_of_ble_eq_true rfl⟩), hts _ wd14_5⟩ (ps hK hP hD hS hA hX [2] rfl rfl) rfl rfl hl.1 rfl (lv_room (Nat.le_of_ble_eq_true rfl)) dX8_sightingOf_62 ⟨Nat.zero_le _, Nat.zero_le _⟩) ?_
      show W _ _ _ _ _ _ _ _ _ _ _ _ _ _ _ (F0 mX 65 ls [.int (nI (sg σ s9 5))])
      refine lv_istore_n (lv' := [(3, .int (nI (sg σ s9 5))), (0, .ref (ma 0)), (1, .int (nI s9)), (2, .int (nI w9))]) hx hb dX8_sightingOf_65 rfl hl (by decide) rfl (fun ls hl => ?_)
      refine lv_iload_n hx hb dX8_sightingOf_66 rfl (lv_at hl 3 rfl) ?_
      rcases (show w9 = 0 ∨ w9 = 1 ∨ w9 = 2 ∨ w9 = 3 ∨ w9 = 4 ∨ w9 = 5 ∨ w9 = 6 ∨ w9 = 7 ∨ w9 = 8 by omega) with rfl | rfl | rfl | rfl | rfl | rfl | rfl | rfl | rfl
      · refine lv_tableOut (tgt := 164) hx hb dX8_sightingOf_67 (by decide) (by decide) ?_
        refine lv_aload_n hx hb dX8_sightingOf_164 rfl (lv_at hl 1 rfl) ?_
        refine va_get (D := g) (ci := 6) (v := .ref (ma 2)) (C := RX8) (T := TX8) (N := 13) hx hb hts bgX8 hown hK hP 0 rfl rfl 3 (by decide) (hts _ wd5_21) (fun _ h9 => h9) rfl dX8_sightingOf_165 ?_
        refine lv_iload_n hx hb dX8_sightingOf_168 rfl (lv_at hl 2 rfl) ?_
        refine lv_iload_n hx hb dX8_sightingOf_169 rfl (lv_at hl 3 rfl) ?_
        refine rd_call (va_runS (As := [.ref (ma 2), .int (nI s9), .int (nI 0)]) (rest := []) ⟨hx, hb, hml, hown, hts⟩ (c_X8_ofSight l g cy (ma 2) H.size σ s9 0 (by omega) (by omega)) ⟨(cB 3 hts wd14_6 wd1_5 wd14_4 rfl rfl (by decide +kernel) ⟨Nat.le_of_ble_eq_true rfl, Nat.le_of_ble_eq_true rfl⟩), hts _ wd14_5⟩ (ps hK hP hD hS hA hX [2] rfl rfl) rfl rfl hl.1 rfl (lv_room (Nat.le_of_ble_eq_true rfl)) dX8_sightingOf_170 ⟨Nat.zero_le _, Nat.zero_le _⟩) ?_
        show W _ _ _ _ _ _ _ _ _ _ _ _ _ _ _ (F0 mX 173 ls [.int (nI (sg σ s9 0))])
        exact wr_i (tr, dy, kp, D σ, hp, sp, ou, rkm 1 2 0 (fSig σ (nI s9) (nI 0))) (by rw [if_pos c_43, nI_clamp (by omega), nI_clamp (by decide)]; rfl) ⟨rfl, ⟨hwf, hn14, hdy, hkp, htx, hln⟩⟩ hP hS hx hb hr dX8_sightingOf_173 hlk
      · refine lv_tableOut (tgt := 164) hx hb dX8_sightingOf_67 (by decide) (by decide) ?_
        refine lv_aload_n hx hb dX8_sightingOf_164 rfl (lv_at hl 1 rfl) ?_
        refine va_get (D := g) (ci := 6) (v := .ref (ma 2)) (C := RX8) (T := TX8) (N := 13) hx hb hts bgX8 hown hK hP 0 rfl rfl 3 (by decide) (hts _ wd5_21) (fun _ h9 => h9) rfl dX8_sightingOf_165 ?_
        refine lv_iload_n hx hb dX8_sightingOf_168 rfl (lv_at hl 2 rfl) ?_
        refine lv_iload_n hx hb dX8_sightingOf_169 rfl (lv_at hl 3 rfl) ?_
        refine rd_call (va_runS (As := [.ref (ma 2), .int (nI s9), .int (nI 1)]) (rest := []) ⟨hx, hb, hml, hown, hts⟩ (c_X8_ofSight l g cy (ma 2) H.size σ s9 1 (by omega) (by omega)) ⟨(cB 3 hts wd14_6 wd1_5 wd14_4 rfl rfl (by decide +kernel) ⟨Nat.le_of_ble_eq_true rfl, Nat.le_of_ble_eq_true rfl⟩), hts _ wd14_5⟩ (ps hK hP hD hS hA hX [2] rfl rfl) rfl rfl hl.1 rfl (lv_room (Nat.le_of_ble_eq_true rfl)) dX8_sightingOf_170 ⟨Nat.zero_le _, Nat.zero_le _⟩) ?_
        show W _ _ _ _ _ _ _ _ _ _ _ _ _ _ _ (F0 mX 173 ls [.int (nI (sg σ s9 1))])
        exact wr_i (tr, dy, kp, D σ, hp, sp, ou, rkm 1 2 0 (fSig σ (nI s9) (nI 1))) (by rw [if_pos c_43, nI_clamp (by omega), nI_clamp (by decide)]; rfl) ⟨rfl, ⟨hwf, hn14, hdy, hkp, htx, hln⟩⟩ hP hS hx hb hr dX8_sightingOf_173 hlk
      · refine lv_tableOut (tgt := 164) hx hb dX8_sightingOf_67 (by decide) (by decide) ?_
        refine lv_aload_n hx hb dX8_sightingOf_164 rfl (lv_at hl 1 rfl) ?_
        refine va_get (D := g) (ci := 6) (v := .ref (ma 2)) (C := RX8) (T := TX8) (N := 13) hx hb hts bgX8 hown hK hP 0 rfl rfl 3 (by decide) (hts _ wd5_21) (fun _ h9 => h9) rfl dX8_sightingOf_165 ?_
        refine lv_iload_n hx hb dX8_sightingOf_168 rfl (lv_at hl 2 rfl) ?_
        refine lv_iload_n hx hb dX8_sightingOf_169 rfl (lv_at hl 3 rfl) ?_
        refine rd_call (va_runS (As := [.ref (ma 2), .int (nI s9), .int (nI 2)]) (rest := []) ⟨hx, hb, hml, hown, hts⟩ (c_X8_ofSight l g cy (ma 2) H.size σ s9 2 (by omega) (by omega)) ⟨(cB 3 hts wd14_6 wd1_5 wd14_4 rfl rfl (by decide +kernel) ⟨Nat.le_of_ble_eq_true rfl, Nat.le_of_ble_eq_true rfl⟩), hts _ wd14_5⟩ (ps hK hP hD hS hA hX [2] rfl rfl) rfl rfl hl.1 rfl (lv_room (Nat.le_of_ble_eq_true rfl)) dX8_sightingOf_170 ⟨Nat.zero_le _, Nat.zero_le _⟩) ?_
        show W _ _ _ _ _ _ _ _ _ _ _ _ _ _ _ (F0 mX 173 ls [.int (nI (sg σ s9 2))])
        exact wr_i (tr, dy, kp, D σ, hp, sp, ou, rkm 1 2 0 (fSig σ (nI s9) (nI 2))) (by rw [if_pos c_43, nI_clamp (by omega), nI_clamp (by decide)]; rfl) ⟨rfl, ⟨hwf, hn14, hdy, hkp, htx, hln⟩⟩ hP hS hx hb hr dX8_sightingOf_173 hlk
      · refine lv_tableOut (tgt := 164) hx hb dX8_sightingOf_67 (by decide) (by decide) ?_
        refine lv_aload_n hx hb dX8_sightingOf_164 rfl (lv_at hl 1 rfl) ?_
        refine va_get (D := g) (ci := 6) (v := .ref (ma 2)) (C := RX8) (T := TX8) (N := 13) hx hb hts bgX8 hown hK hP 0 rfl rfl 3 (by decide) (hts _ wd5_21) (fun _ h9 => h9) rfl dX8_sightingOf_165 ?_
        refine lv_iload_n hx hb dX8_sightingOf_168 rfl (lv_at hl 2 rfl) ?_
        refine lv_iload_n hx hb dX8_sightingOf_169 rfl (lv_at hl 3 rfl) ?_
        refine rd_call (va_runS (As := [.ref (ma 2), .int (nI s9), .int (nI 3)]) (rest := []) ⟨hx, hb, hml, hown, hts⟩ (c_X8_ofSight l g cy (ma 2) H.size σ s9 3 (by omega) (by omega)) ⟨(cB 3 hts wd14_6 wd1_5 wd14_4 rfl rfl (by decide +kernel) ⟨Nat.le_of_ble_eq_true rfl, Nat.le_of_ble_eq_true rfl⟩), hts _ wd14_5⟩ (ps hK hP hD hS hA hX [2] rfl rfl) rfl rfl hl.1 rfl (lv_room (Nat.le_of_ble_eq_true rfl)) dX8_sightingOf_170 ⟨Nat.zero_le _, Nat.zero_le _⟩) ?_
        show W _ _ _ _ _ _ _ _ _ _ _ _ _ _ _ (F0 mX 173 ls [.int (nI (sg σ s9 3))])
        exact wr_i (tr, dy, kp, D σ, hp, sp, ou, rkm 1 2 0 (fSig σ (nI s9) (nI 3))) (by rw [if_pos c_43, nI_clamp (by omega), nI_clamp (by decide)]; rfl) ⟨rfl, ⟨hwf, hn14, hdy, hkp, htx, hln⟩⟩ hP hS hx hb hr dX8_sightingOf_173 hlk
      · refine lv_tableOut (tgt := 164) hx hb dX8_sightingOf_67 (by decide) (by decide) ?_
        refine lv_aload_n hx hb dX8_sightingOf_164 rfl (lv_at hl 1 rfl) ?_
        refine va_get (D := g) (ci := 6) (v := .ref (ma 2)) (C := RX8) (T := TX8) (N := 13) hx hb hts bgX8 hown hK hP 0 rfl rfl 3 (by decide) (hts _ wd5_21) (fun _ h9 => h9) rfl dX8_sightingOf_165 ?_
        refine lv_iload_n hx hb dX8_sightingOf_168 rfl (lv_at hl 2 rfl) ?_
        refine lv_iload_n hx hb dX8_sightingOf_169 rfl (lv_at hl 3 rfl) ?_
        refine rd_call (va_runS (As := [.ref (ma 2), .int (nI s9), .int (nI 4)]) (rest := []) ⟨hx, hb, hml, hown, hts⟩ (c_X8_ofSight l g cy (ma 2) H.size σ s9 4 (by omega) (by omega)) ⟨(cB 3 hts wd14_6 wd1_5 wd14_4 rfl rfl (by decide +kernel) ⟨Nat.le_of_ble_eq_true rfl, Nat.le_of_ble_eq_true rfl⟩), hts _ wd14_5⟩ (ps hK hP hD hS hA hX [2] rfl rfl) rfl rfl hl.1 rfl (lv_room (Nat.le_of_ble_eq_true rfl)) dX8_sightingOf_170 ⟨Nat.zero_le _, Nat.zero_le _⟩) ?_
        show W _ _ _ _ _ _ _ _ _ _ _ _ _ _ _ (F0 mX 173 ls [.int (nI (sg σ s9 4))])
        exact wr_i (tr, dy, kp, D σ, hp, sp, ou, rkm 1 2 0 (fSig σ (nI s9) (nI 4))) (by rw [if_pos c_43, nI_clamp (by omega), nI_clamp (by decide)]; rfl) ⟨rfl, ⟨hwf, hn14, hdy, hkp, htx, hln⟩⟩ hP hS hx hb hr dX8_sightingOf_173 hlk
      · refine lv_tableOut (tgt := 164) hx hb dX8_sightingOf_67 (by decide) (by decide) ?_
        refine lv_aload_n hx hb dX8_sightingOf_164 rfl (lv_at hl 1 rfl) ?_
        refine va_get (D := g) (ci := 6) (v := .ref (ma 2)) (C := RX8) (T := TX8) (N := 13) hx hb hts bgX8 hown hK hP 0 rfl rfl 3 (by decide) (hts _ wd5_21) (fun _ h9 => h9) rfl dX8_sightingOf_165 ?_
        refine lv_iload_n hx hb dX8_sightingOf_168 rfl (lv_at hl 2 rfl) ?_
        refine lv_iload_n hx hb dX8_sightingOf_169 rfl (lv_at hl 3 rfl) ?_
        refine rd_call (va_runS (As := [.ref (ma 2), .int (nI s9), .int (nI 5)]) (rest := []) ⟨hx, hb, hml, hown, hts⟩ (c_X8_ofSight l g cy (ma 2) H.size σ s9 5 (by omega) (by omega)) ⟨(cB 3 hts wd14_6 wd1_5 wd14_4 rfl rfl (by decide +kernel) ⟨Nat.le_of_ble_eq_true rfl, Nat.le_of_ble_eq_true rfl⟩), hts _ wd14_5⟩ (ps hK hP hD hS hA hX [2] rfl rfl) rfl rfl hl.1 rfl (lv_room (Nat.le_of_ble_eq_true rfl)) dX8_sightingOf_170 ⟨Nat.zero_le _, Nat.zero_le _⟩) ?_
        show W _ _ _ _ _ _ _ _ _ _ _ _ _ _ _ (F0 mX 173 ls [.int (nI (sg σ s9 5))])
        exact wr_i (tr, dy, kp, D σ, hp, sp, ou, rkm 1 2 0 (fSig σ (nI s9) (nI 5))) (by rw [if_pos c_43, nI_clamp (by omega), nI_clamp (by decide)]; rfl) ⟨rfl, ⟨hwf, hn14, hdy, hkp, htx, hln⟩⟩ hP hS hx hb hr dX8_sightingOf_173 hlk
      · refine lv_tableIn (tgt := 92) (off := 25) hx hb dX8_sightingOf_67 (by decide) (by decide) (by decide) (by decide) ?_
        refine lv_iload_n hx hb dX8_sightingOf_92 rfl (lv_at hl 0 rfl) ?_
        refine lv_iconst (v := (nI NN)) hx hb dX8_sightingOf_93 (by decide) ?_
        refine lv_icmp_ne (tgt := 101) hx hb dX8_sightingOf_94 (by decide) (fun c_94 => ?_) (fun c_94 => ?_)
        · have c_94 := (nc_ne9 (by omega) (by decide) c_94)
          have hd5 := hwf.s5 hs9 c_94
          refine lv_aload_n hx hb dX8_sightingOf_101 rfl (lv_at hl 1 rfl) ?_
          refine va_get (D := g) (ci := 6) (v := .ref (ma 2)) (C := RX8) (T := TX8) (N := 13) hx hb hts bgX8 hown hK hP 0 rfl rfl 3 (by decide) (hts _ wd5_21) (fun _ h9 => h9) rfl dX8_sightingOf_102 ?_
          refine lv_iload_n hx hb dX8_sightingOf_105 rfl (lv_at hl 0 rfl) ?_
          refine lv_aload_n hx hb dX8_sightingOf_106 rfl (lv_at hl 1 rfl) ?_
          refine va_get (D := g) (ci := 6) (v := .ref (ma 2)) (C := RX8) (T := TX8) (N := 13) hx hb hts bgX8 hown hK hP 0 rfl rfl 3 (by decide) (hts _ wd5_21) (fun _ h9 => h9) rfl dX8_sightingOf_107 ?_
          refine lv_iload_n hx hb dX8_sightingOf_110 rfl (lv_at hl 2 rfl) ?_
          refine lv_iconst (v := (nI 3)) hx hb dX8_sightingOf_111 (by decide) ?_
          refine rd_call (va_runS (As := [.ref (ma 2), .int (nI s9), .int (nI 3)]) (rest := [.int (nI (sg σ s9 5)), .ref (ma 2)]) ⟨hx, hb, hml, hown, hts⟩ (c_X8_ofSight l g cy (ma 2) H.size σ s9 3 (by omega) (by omega)) ⟨(cB 3 hts wd14_6 wd1_5 wd14_4 rfl rfl (by decide +kernel) ⟨Nat.le_of_ble_eq_true rfl, Nat.le_of_ble_eq_true rfl⟩), hts _ wd14_5⟩ (ps hK hP hD hS hA hX [2] rfl rfl) rfl rfl hl.1 rfl (lv_room (Nat.le_of_ble_eq_true rfl)) dX8_sightingOf_112 ⟨Nat.zero_le _, Nat.zero_le _⟩) ?_
          show W _ _ _ _ _ _ _ _ _ _ _ _ _ _ _ (F0 mX 115 ls [.int (nI (sg σ s9 3)), .int (nI (sg σ s9 5)), .ref (ma 2)])
          refine rd_call (va_runS (As := [.ref (ma 2), .int (nI (sg σ s9 5)), .int (nI (sg σ s9 3))]) (rest := []) ⟨hx, hb, hml, hown, hts⟩ (c_X8_unlike l g cy (ma 2) H.size σ bd (sg σ s9 5) (sg σ s9 3) hwf (by omega) (by omega)) ⟨(cB 3 hts wd13_2 wd1_5 wd13_0 rfl rfl (by decide +kernel) ⟨Nat.le_of_ble_eq_true rfl, Nat.le_of_ble_eq_true rfl⟩), hts _ wd13_1⟩ (ps hK hP hD hS hA hX [2] rfl rfl) rfl rfl hl.1 rfl (lv_room (Nat.le_of_ble_eq_true rfl)) dX8_sightingOf_115 ⟨Nat.zero_le _, Nat.zero_le _⟩) ?_
          show W _ _ _ _ _ _ _ _ _ _ _ _ _ _ _ (F0 mX 118 ls [.int (nI (unl σ (sg σ s9 5) (sg σ s9 3)))])
          exact wr_i (tr, dy, kp, D σ, hp, sp, ou, rkm 1 2 0 (fSig σ (nI s9) (nI 6))) (by rw [if_pos c_43, nI_clamp (by omega), nI_clamp (by decide)]; simp [nsg, c_94]) ⟨rfl, ⟨hwf, hn14, hdy, hkp, htx, hln⟩⟩ hP hS hx hb hr dX8_sightingOf_118 hlk
        · have c_94 := (nc_eq9 (by omega) (by decide) c_94)
          refine lv_iconst (v := (nI NN)) hx hb dX8_sightingOf_97 (by decide) ?_
          refine lv_goto (tgt := 118) hx hb dX8_sightingOf_98 (by decide) ?_
          exact wr_i (tr, dy, kp, D σ, hp, sp, ou, rkm 1 2 0 (fSig σ (nI s9) (nI 6))) (by rw [if_pos c_43, nI_clamp (by omega), nI_clamp (by decide)]; simp [nsg, c_94]) ⟨rfl, ⟨hwf, hn14, hdy, hkp, htx, hln⟩⟩ hP hS hx hb hr dX8_sightingOf_118 hlk
      · refine lv_tableIn (tgt := 119) (off := 52) hx hb dX8_sightingOf_67 (by decide) (by decide) (by decide) (by decide) ?_
        refine lv_iload_n hx hb dX8_sightingOf_119 rfl (lv_at hl 0 rfl) ?_
        refine lv_iconst (v := (nI NN)) hx hb dX8_sightingOf_120 (by decide) ?_
        refine lv_icmp_ne (tgt := 128) hx hb dX8_sightingOf_121 (by decide) (fun c_121 => ?_) (fun c_121 => ?_)
        · have c_121 := (nc_ne9 (by omega) (by decide) c_121)
          refine lv_aload_n hx hb dX8_sightingOf_128 rfl (lv_at hl 1 rfl) ?_
          refine lv_aload_n hx hb dX8_sightingOf_129 rfl (lv_at hl 1 rfl) ?_
          refine va_get (D := g) (ci := 6) (v := .ref (ma 2)) (C := RX8) (T := TX8) (N := 13) hx hb hts bgX8 hown hK hP 0 rfl rfl 3 (by decide) (hts _ wd5_21) (fun _ h9 => h9) rfl dX8_sightingOf_130 ?_
          refine lv_iload_n hx hb dX8_sightingOf_133 rfl (lv_at hl 2 rfl) ?_
          refine rd_call (va_runV (As := [.ref (ma 2), .int (nI s9)]) (rest := []) ⟨hx, hb, hml, hown, hts⟩ (c_X8_isTrue l g cy (ma 0) (ma 1) (ma 2) (ma 3) (ma 4) (ma 5) (ma 6) (ma 7) (ma 8) (ma 2) H.size (rkm 1 2 0 (fSig σ (nI s9) (nI 7))) ln n sp ou (D σ) σ bd s9 hwf (fun _ _ => rfl) (by omega) c_121) ⟨(cB 2 hts wd14_14 wd1_5 wd14_11 rfl rfl (by decide +kernel) ⟨Nat.le_of_ble_eq_true rfl, Nat.le_of_ble_eq_true rfl⟩), hts _ wd14_12, hts _ wd14_13⟩ (pv hK hP hD hS hA hX [0, 7, 2] rfl rfl 6 0 rfl rfl) rfl rfl hl.1 rfl (lv_room (Nat.le_of_ble_eq_true rfl)) dX8_sightingOf_134 ⟨Nat.zero_le _, Nat.zero_le _⟩) ?_
          show W _ _ _ _ _ _ _ _ _ _ _ _ _ _ _ (F0 mX 137 ls [.int (bI (tru σ s9))])
          refine lv_if_eq (tgt := 144) hx hb dX8_sightingOf_137 (by decide) (fun c_137 => ?_) (fun c_137 => ?_)
          · have c_137 := (bI_eq0.mp c_137)
            refine lv_iconst (v := (nI 0)) hx hb dX8_sightingOf_144 (by decide) ?_
            exact wr_i (tr, dy, kp, D σ, hp, sp, ou, rkm 1 2 0 (fSig σ (nI s9) (nI 7))) (by rw [if_pos c_43, nI_clamp (by omega), nI_clamp (by decide)]; simp [nsg, c_121, c_137]) ⟨rfl, ⟨hwf, hn14, hdy, hkp, htx, hln⟩⟩ hP hS hx hb hr dX8_sightingOf_145 hlk
          · have c_137 := (bI_ne0.mp c_137)
            refine lv_iconst (v := (nI 1)) hx hb dX8_sightingOf_140 (by decide) ?_
            refine lv_goto (tgt := 145) hx hb dX8_sightingOf_141 (by decide) ?_
            exact wr_i (tr, dy, kp, D σ, hp, sp, ou, rkm 1 2 0 (fSig σ (nI s9) (nI 7))) (by rw [if_pos c_43, nI_clamp (by omega), nI_clamp (by decide)]; simp [nsg, c_121, c_137]) ⟨rfl, ⟨hwf, hn14, hdy, hkp, htx, hln⟩⟩ hP hS hx hb hr dX8_sightingOf_145 hlk
        · have c_121 := (nc_eq9 (by omega) (by decide) c_121)
          refine lv_iconst (v := (nI NN)) hx hb dX8_sightingOf_124 (by decide) ?_
          refine lv_goto (tgt := 145) hx hb dX8_sightingOf_125 (by decide) ?_
          exact wr_i (tr, dy, kp, D σ, hp, sp, ou, rkm 1 2 0 (fSig σ (nI s9) (nI 7))) (by rw [if_pos c_43, nI_clamp (by omega), nI_clamp (by decide)]; simp [nsg, c_121]) ⟨rfl, ⟨hwf, hn14, hdy, hkp, htx, hln⟩⟩ hP hS hx hb hr dX8_sightingOf_145 hlk
      · refine lv_tableIn (tgt := 146) (off := 79) hx hb dX8_sightingOf_67 (by decide) (by decide) (by decide) (by decide) ?_
        refine lv_aload_n hx hb dX8_sightingOf_146 rfl (lv_at hl 1 rfl) ?_
        refine lv_aload_n hx hb dX8_sightingOf_147 rfl (lv_at hl 1 rfl) ?_
        refine va_get (D := g) (ci := 6) (v := .ref (ma 2)) (C := RX8) (T := TX8) (N := 13) hx hb hts bgX8 hown hK hP 0 rfl rfl 3 (by decide) (hts _ wd5_21) (fun _ h9 => h9) rfl dX8_sightingOf_148 ?_
        refine lv_iload_n hx hb dX8_sightingOf_151 rfl (lv_at hl 2 rfl) ?_
        refine rd_call (va_runV (As := [.ref (ma 2), .int (nI s9)]) (rest := []) ⟨hx, hb, hml, hown, hts⟩ (c_X8_isFraud l g cy (ma 0) (ma 1) (ma 2) (ma 3) (ma 4) (ma 5) (ma 6) (ma 7) (ma 8) (ma 2) H.size (rkm 1 2 0 (fSig σ (nI s9) (nI 8))) ln n sp ou (D σ) σ bd s9 hwf (fun _ _ => rfl) (by omega)) ⟨(cB 2 hts wd14_10 wd1_5 wd14_7 rfl rfl (by decide +kernel) ⟨Nat.le_of_ble_eq_true rfl, Nat.le_of_ble_eq_true rfl⟩), hts _ wd14_8, hts _ wd14_9⟩ (pv hK hP hD hS hA hX [0, 7, 2] rfl rfl 6 0 rfl rfl) rfl rfl hl.1 rfl (lv_room (Nat.le_of_ble_eq_true rfl)) dX8_sightingOf_152 ⟨Nat.zero_le _, Nat.zero_le _⟩) ?_
        show W _ _ _ _ _ _ _ _ _ _ _ _ _ _ _ (F0 mX 155 ls [.int (bI (frd σ s9))])
        refine lv_if_eq (tgt := 162) hx hb dX8_sightingOf_155 (by decide) (fun c_155 => ?_) (fun c_155 => ?_)
        · have c_155 := (bI_eq0.mp c_155)
          refine lv_iconst (v := (nI 0)) hx hb dX8_sightingOf_162 (by decide) ?_
          exact wr_i (tr, dy, kp, D σ, hp, sp, ou, rkm 1 2 0 (fSig σ (nI s9) (nI 8))) (by rw [if_pos c_43, nI_clamp (by omega), nI_clamp (by decide)]; simp [nsg, c_155]) ⟨rfl, ⟨hwf, hn14, hdy, hkp, htx, hln⟩⟩ hP hS hx hb hr dX8_sightingOf_163 hlk
        · have c_155 := (bI_ne0.mp c_155)
          refine lv_iconst (v := (nI 1)) hx hb dX8_sightingOf_158 (by decide) ?_
          refine lv_goto (tgt := 163) hx hb dX8_sightingOf_159 (by decide) ?_
          exact wr_i (tr, dy, kp, D σ, hp, sp, ou, rkm 1 2 0 (fSig σ (nI s9) (nI 8))) (by rw [if_pos c_43, nI_clamp (by omega), nI_clamp (by decide)]; simp [nsg, c_155]) ⟨rfl, ⟨hwf, hn14, hdy, hkp, htx, hln⟩⟩ hP hS hx hb hr dX8_sightingOf_163 hlk
    · have c_43 := (bI_ne0.mp c_43)
      have c_43 : ¬ fSig σ vs vw = 0 := fun e => by rw [e] at c_43; exact absurd c_43 (by decide)
      refine lv_iconst (v := (nI 0)) hx hb dX8_sightingOf_46 (by decide) ?_
      exact wr_i (tr, dy, kp, wy, hp, sp, ou, rkm 1 2 0 (fSig σ vs vw)) (by rw [if_neg c_43]) ⟨rfl, (by skip; exact ⟨hwf, hn14, hdy, hkp, htx, hln⟩)⟩ (by skip; exact hP) hS hx hb hr dX8_sightingOf_47 hlk
  · skip
    refine lv_iload_n hx hb dX8_sightingOf_1 rfl (lv_at hl 1 rfl) ?_
    refine lv_i2l (v := vs.toInt64) hx hb dX8_sightingOf_2 rfl ?_
    refine lv_lconst (v := 0) hx hb dX8_sightingOf_3 rfl ?_
    refine lv_aload_n hx hb dX8_sightingOf_4 rfl (lv_at hl 0 rfl) ?_
    refine va_get (D := g) (ci := 6) (v := .ref (ma 2)) (C := RX8) (T := TX8) (N := 13) hx hb hts bgX8 hown hK hP 0 rfl rfl 3 (by decide) (hts _ wd5_21) (fun _ h9 => h9) rfl dX8_sightingOf_5 ?_
    refine lv_iconst (v := (nI 1)) hx hb dX8_sightingOf_8 (by decide) ?_
    refine va_iald hx hb hK hP 2 0 rfl rfl (vp_in_nI (n := 1) (by omega) (by omega)) dX8_sightingOf_9 ?_
    refine ti (show (mS σ) (nI 1).toNatClampNeg = nI (σ 1) from by rw [nI_clamp (by omega)]; rfl) ?_
    refine lv_iconst (v := (nI 1)) hx hb dX8_sightingOf_10 (by decide) ?_
    refine lv_isub hx hb dX8_sightingOf_11 ?_
    refine lv_i2l (v := ((nI (σ 1)) - (nI 1)).toInt64) hx hb dX8_sightingOf_12 rfl ?_
    refine rd_call (va_runS (As := [.long vs.toInt64, .long (0 : Int64), .long (((nI (σ 1)) - (nI 1)).toInt64)]) (rest := [.ref (ma 0)]) ⟨hx, hb, hml, hown, hts⟩ (c_X8_in l vs.toInt64 (0 : Int64) (((nI (σ 1)) - (nI 1)).toInt64) ) ⟨(cB 3 hts wd7_17 wd1_5 wd7_15 rfl rfl (by decide +kernel) ⟨Nat.le_of_ble_eq_true rfl, Nat.le_of_ble_eq_true rfl⟩), hts _ wd7_16⟩ p0 rfl rfl hl.1 rfl (lv_room (Nat.le_of_ble_eq_true rfl)) dX8_sightingOf_13 ⟨Nat.zero_le _, Nat.zero_le _⟩) ?_
    show W _ _ _ _ _ _ _ _ _ _ _ _ _ _ _ (F0 mX 16 ls [.int (bI (inL vs.toInt64 (0 : Int64) (((nI (σ 1)) - (nI 1)).toInt64))), .ref (ma 0)])
    refine ti (show (bI (inL vs.toInt64 (0 : Int64) (((nI (σ 1)) - (nI 1)).toInt64))) = (bI (hasR (σ 1) vs)) from (congrArg bI (inL_dog (by omega)))) ?_
    refine lv_if_ne (tgt := 23) hx hb dX8_sightingOf_16 (by decide) (fun c_16 => ?_) (fun c_16 => ?_)
    · have c_16 := (bI_ne0.mp c_16)
      refine lv_iload_n hx hb dX8_sightingOf_23 rfl (lv_at hl 2 rfl) ?_
      refine lv_i2l (v := vw.toInt64) hx hb dX8_sightingOf_24 rfl ?_
      refine lv_lconst (v := 0) hx hb dX8_sightingOf_25 rfl ?_
      refine lv_ldc2 hx hb hown (hts _ wd26_11) dX8_sightingOf_26 ?_
      refine rd_call (va_runS (As := [.long vw.toInt64, .long (0 : Int64), .long (8 : Int64)]) (rest := [.ref (ma 0)]) ⟨hx, hb, hml, hown, hts⟩ (c_X8_in l vw.toInt64 (0 : Int64) (8 : Int64) ) ⟨(cB 3 hts wd7_17 wd1_5 wd7_15 rfl rfl (by decide +kernel) ⟨Nat.le_of_ble_eq_true rfl, Nat.le_of_ble_eq_true rfl⟩), hts _ wd7_16⟩ p0 rfl rfl hl.1 rfl (lv_room (Nat.le_of_ble_eq_true rfl)) dX8_sightingOf_29 ⟨Nat.zero_le _, Nat.zero_le _⟩) ?_
      show W _ _ _ _ _ _ _ _ _ _ _ _ _ _ _ (F0 mX 32 ls [.int (bI (inL vw.toInt64 (0 : Int64) (8 : Int64))), .ref (ma 0)])
      refine ti (show (bI (inL vw.toInt64 (0 : Int64) (8 : Int64))) = (bI (inR vw (nI 0) (nI 8))) from (congrArg bI (inL_c (a := 0) (b := 8) (by decide) (by decide)))) ?_
      refine lv_if_eq (tgt := 39) hx hb dX8_sightingOf_32 (by decide) (fun c_32 => ?_) (fun c_32 => ?_)
      · have c_32 := (bI_eq0.mp c_32)
        refine lv_iconst (v := (nI 2)) hx hb dX8_sightingOf_39 (by decide) ?_
        exact jn40 _ (congrArg nI (by simp [rkm, fSig, c_16, c_32]))
      · have c_32 := (bI_ne0.mp c_32)
        refine lv_iconst (v := (nI 0)) hx hb dX8_sightingOf_35 (by decide) ?_
        refine lv_goto (tgt := 40) hx hb dX8_sightingOf_36 (by decide) ?_
        exact jn40 _ (congrArg nI (by simp [rkm, fSig, c_16, c_32]))
    · have c_16 := (bI_eq0.mp c_16)
      refine lv_iconst (v := (nI 1)) hx hb dX8_sightingOf_19 (by decide) ?_
      refine lv_goto (tgt := 40) hx hb dX8_sightingOf_20 (by decide) ?_
      exact jn40 _ (congrArg nI (by simp [rkm, fSig, c_16]))
set_option maxHeartbeats 4000000 in
set_option maxRecDepth 100000 in
theorem c_X8_purse (l : Launch) (g : va_G) (cy : Nat → ClassId) (ma : Nat → Nat) (sz : Nat) (bd : Nat) (q : Mc) (σ : Nat → Nat) (Hh : Nat → Nat → Nat) (n : Nat) (K : Nat → Nat → Nat) (fl : Nat → Bool) (tx : Nat → Nat) (ln : Nat) (vf : Int32) (hI : mI bd q σ Hh n K fl tx ln) : Met l yX8_purse (Cond.code yX8_purse cX8_purse 2 (some .int) :: wsL_law) ({ frames := 2, cells := 0, slots := 0, locals := 45 } : Room) (va_Pc [.ref (ma 0), .int vf] (pr g cy (mQ cy ma q σ n fl tx ln) sz)) (wr_Q (fun _ : Mc => (some (.int (nI (if fPur vf = 0 then σ (8 + vf.toNatClampNeg) else 0))))) (fun q9 : Mc => q9.2.2.2.2.2.2.2 = rkm 1 0 0 (fPur vf) ∧ mI bd q9 σ Hh n K fl tx ln) (fun q9 : Mc => mQ cy ma q9 σ n fl tx ln) g (va_A (mQ cy ma q σ n fl tx ln) sz)) 0 0 (va_A (mQ cy ma q σ n fl tx ln) sz) := by
  obtain ⟨tr, dy, kp, wy, hp, sp, ou, rf⟩ := q
  obtain ⟨hwf, hn14, hdy, hkp, htx, hln⟩ := hI
  have hdy : ∀ k, k < n → ∀ j, j < 248 → dy (248 * k + j) = Hh k j := hdy
  have hkp : ∀ k, k < 2 → fl k = true → ∀ j, j < 248 → kp (248 * k + j) = K k j := hkp
  refine mt_of (cc := cX8_purse) (maxL := 2) (ret := (some .int)) (by decide +kernel) (Nat.le_of_ble_eq_true rfl) ?_
  intro pX eX s mX below meth cX ls A hx hb hr hml hown hts hlk hin hsz hAe hA hP hD hK hX hl
  subst hsz
  rw [← hAe]
  clear hAe
  have hP : va_P g vwCl [(ma 0, .inr (6, [.int (nI rf), .ref (ma 1), .int (nI ln), .ref (ma 2), .ref (ma 3), .ref (ma 4), .int (nI n), .ref (ma 5), .ref (ma 6), .ref (ma 7), .ref (ma 8), .int (nI sp), .int (nI ou)])), aI cy (ma 1) 120 (mS tx), aI cy (ma 2) 248 (mS σ), aI cy (ma 3) 248 (mS tr), aI cy (ma 4) 3472 (mS dy), aI cy (ma 5) 496 (mS kp), aZ cy (ma 6) 2 (fun j => bI (fl j)), aI cy (ma 7) 144 (mS wy), aI cy (ma 8) 8 (mS hp)] s.heap := hP
  have hD : va_D A [(ma 0, .inr (6, [.int (nI rf), .ref (ma 1), .int (nI ln), .ref (ma 2), .ref (ma 3), .ref (ma 4), .int (nI n), .ref (ma 5), .ref (ma 6), .ref (ma 7), .ref (ma 8), .int (nI sp), .int (nI ou)])), aI cy (ma 1) 120 (mS tx), aI cy (ma 2) 248 (mS σ), aI cy (ma 3) 248 (mS tr), aI cy (ma 4) 3472 (mS dy), aI cy (ma 5) 496 (mS kp), aZ cy (ma 6) 2 (fun j => bI (fl j)), aI cy (ma 7) 144 (mS wy), aI cy (ma 8) 8 (mS hp)] := hD
  have hl : lv_has ls 2 [(0, .ref (ma 0)), (1, .int vf)] := hl
  have hS : va_S A s.heap s.heap [] := va_S.rf
  have hn0 := hwf.n0
  have hn1 := hwf.n1
  have hh2 := hwf.h2
  have hfr : fPur vf = 0 ∨ 0 < rkm 1 0 0 (fPur vf) := by unfold fPur rkm; (repeat' split) <;> omega
  have hfl9 : rkm 1 0 0 (fPur vf) < 10 := by unfold rkm; (repeat' split) <;> omega
  refine lv_aload_n hx hb dX8_purse_0 rfl (lv_at hl 0 rfl) ?_
  refine jn_i (pcj := 13) (ls := ls) (st := [.ref (ma 0)]) (fun v9 => v9 = (nI (rkm 1 0 0 (fPur vf)))) ?_ (fun jn13 => ?_)
  · intro v9 hv9
    subst hv9
    refine wr_call (wc := [(ma 0, .inr (6, [.int (nI rf), .ref (ma 1), .int (nI ln), .ref (ma 2), .ref (ma 3), .ref (ma 4), .int (nI n), .ref (ma 5), .ref (ma 6), .ref (ma 7), .ref (ma 8), .int (nI sp), .int (nI ou)]))]) (va_runV (As := [.int (nI (rkm 1 0 0 (fPur vf)))]) (rest := []) ⟨hx, hb, hml, hown, hts⟩ (c_X8_refused l g cy (ma 0) (ma 1) (ma 2) (ma 3) (ma 4) (ma 5) (ma 6) (ma 7) (ma 8) s.heap.size rf ln n sp ou (rkm 1 0 0 (fPur vf)) (by omega)) ⟨(cB 1 hts wd7_21 wd1_5 wd7_18 rfl rfl (by decide +kernel) ⟨Nat.le_of_ble_eq_true rfl, Nat.le_of_ble_eq_true rfl⟩), hts _ wd7_19, hts _ wd7_20⟩ (pv hK hP hD hS hA hX [0] rfl rfl 6 0 rfl rfl) rfl rfl hl.1 rfl (lv_room (Nat.le_of_ble_eq_true rfl)) dX8_purse_13 ⟨Nat.zero_le _, Nat.zero_le _⟩) hP hD hS hA [0] rfl rfl (fun _ => (rfl : ([ma 0] : List Nat) = [ma 0])) ?_
    rintro _u9 H locs - hP hD hS
    have hP : va_P g vwCl [(ma 0, .inr (6, [.int (nI (rkm 1 0 0 (fPur vf))), .ref (ma 1), .int (nI ln), .ref (ma 2), .ref (ma 3), .ref (ma 4), .int (nI n), .ref (ma 5), .ref (ma 6), .ref (ma 7), .ref (ma 8), .int (nI sp), .int (nI ou)])), aI cy (ma 1) 120 (mS tx), aI cy (ma 2) 248 (mS σ), aI cy (ma 3) 248 (mS tr), aI cy (ma 4) 3472 (mS dy), aI cy (ma 5) 496 (mS kp), aZ cy (ma 6) 2 (fun j => bI (fl j)), aI cy (ma 7) 144 (mS wy), aI cy (ma 8) 8 (mS hp)] H := hP
    have hD : va_D A [(ma 0, .inr (6, [.int (nI (rkm 1 0 0 (fPur vf))), .ref (ma 1), .int (nI ln), .ref (ma 2), .ref (ma 3), .ref (ma 4), .int (nI n), .ref (ma 5), .ref (ma 6), .ref (ma 7), .ref (ma 8), .int (nI sp), .int (nI ou)])), aI cy (ma 1) 120 (mS tx), aI cy (ma 2) 248 (mS σ), aI cy (ma 3) 248 (mS tr), aI cy (ma 4) 3472 (mS dy), aI cy (ma 5) 496 (mS kp), aZ cy (ma 6) 2 (fun j => bI (fl j)), aI cy (ma 7) 144 (mS wy), aI cy (ma 8) 8 (mS hp)] := hD
    show W _ _ _ _ _ _ _ _ _ _ _ _ _ _ _ (F0 mX 16 ls [.int (bI (decide (0 < (rkm 1 0 0 (fPur vf)))))])
    refine lv_if_eq (tgt := 21) hx hb dX8_purse_16 (by decide) (fun c_16 => ?_) (fun c_16 => ?_)
    · have c_16 := (bI_eq0.mp c_16)
      have c_16 : fPur vf = 0 := hfr.resolve_right (of_decide_eq_false c_16)
      obtain ⟨f9, hf9, rfl⟩ := fPur_0 c_16
      refine lv_aload_n hx hb dX8_purse_21 rfl (lv_at hl 0 rfl) ?_
      refine va_get (D := g) (ci := 6) (v := .ref (ma 2)) (C := RX8) (T := TX8) (N := 13) hx hb hts bgX8 hown hK hP 0 rfl rfl 3 (by decide) (hts _ wd5_21) (fun _ h9 => h9) rfl dX8_purse_22 ?_
      refine lv_bipush (v := (nI 8)) hx hb dX8_purse_25 (by decide) ?_
      refine lv_iload_n hx hb dX8_purse_27 rfl (lv_at hl 1 rfl) ?_
      refine lv_iadd hx hb dX8_purse_28 ?_
      refine ti (nI_add 8 f9) ?_
      refine va_iald hx hb hK hP 2 0 rfl rfl (vp_in_nI (n := (8 + f9)) (by omega) (by omega)) dX8_purse_29 ?_
      refine ti (show (mS σ) (nI (8 + f9)).toNatClampNeg = nI (σ (8 + f9)) from by rw [nI_clamp (by omega)]; rfl) ?_
      exact wr_i (tr, dy, kp, wy, hp, sp, ou, rkm 1 0 0 (fPur (nI f9))) (by rw [if_pos c_16, nI_clamp (by omega)]) ⟨rfl, ⟨hwf, hn14, hdy, hkp, htx, hln⟩⟩ hP hS hx hb hr dX8_purse_30 hlk
    · have c_16 := (bI_ne0.mp c_16)
      have c_16 : ¬ fPur vf = 0 := fun e => by rw [e] at c_16; exact absurd c_16 (by decide)
      refine lv_iconst (v := (nI 0)) hx hb dX8_purse_19 (by decide) ?_
      exact wr_i (tr, dy, kp, wy, hp, sp, ou, rkm 1 0 0 (fPur vf)) (by rw [if_neg c_16]) ⟨rfl, (by skip; exact ⟨hwf, hn14, hdy, hkp, htx, hln⟩)⟩ (by skip; exact hP) hS hx hb hr dX8_purse_20 hlk
  · skip
    refine lv_iload_n hx hb dX8_purse_1 rfl (lv_at hl 1 rfl) ?_
    refine rd_call (va_runS (As := [.int vf]) (rest := [.ref (ma 0)]) ⟨hx, hb, hml, hown, hts⟩ (c_X8_isFinder l vf ) ⟨(cB 1 hts wd27_3 wd1_5 wd27_1 rfl rfl (by decide +kernel) ⟨Nat.le_of_ble_eq_true rfl, Nat.le_of_ble_eq_true rfl⟩), hts _ wd27_2⟩ p0 rfl rfl hl.1 rfl (lv_room (Nat.le_of_ble_eq_true rfl)) dX8_purse_2 ⟨Nat.zero_le _, Nat.zero_le _⟩) ?_
    show W _ _ _ _ _ _ _ _ _ _ _ _ _ _ _ (F0 mX 5 ls [.int (bI (inR vf (nI 0) (nI 7))), .ref (ma 0)])
    refine lv_if_eq (tgt := 12) hx hb dX8_purse_5 (by decide) (fun c_5 => ?_) (fun c_5 => ?_)
    · have c_5 := (bI_eq0.mp c_5)
      refine lv_iconst (v := (nI 1)) hx hb dX8_purse_12 (by decide) ?_
      exact jn13 _ (congrArg nI (by simp [rkm, fPur, c_5]))
    · have c_5 := (bI_ne0.mp c_5)
      refine lv_iconst (v := (nI 0)) hx hb dX8_purse_8 (by decide) ?_
      refine lv_goto (tgt := 13) hx hb dX8_purse_9 (by decide) ?_
      exact jn13 _ (congrArg nI (by simp [rkm, fPur, c_5]))
set_option maxHeartbeats 4000000 in
set_option maxRecDepth 100000 in
theorem c_X8_apart (l : Launch) (g : va_G) (cy : Nat → ClassId) (ma : Nat → Nat) (sz : Nat) (bd : Nat) (q : Mc) (σ : Nat → Nat) (Hh : Nat → Nat → Nat) (n : Nat) (K : Nat → Nat → Nat) (fl : Nat → Bool) (tx : Nat → Nat) (ln : Nat) (va : Int32) (vb : Int32) (vw : Int32) (hI : mI bd q σ Hh n K fl tx ln) : Met l yX8_apart (Cond.code yX8_apart cX8_apart 4 (some .int) :: wsL_law) ({ frames := 2, cells := 0, slots := 0, locals := 47 } : Room) (va_Pc [.ref (ma 0), .int va, .int vb, .int vw] (pr g cy (mQ cy ma q σ n fl tx ln) sz)) (wr_Q (fun _ : Mc => (some (.int (if fApa va vb vw = 0 then wv σ (12 * va.toNatClampNeg + vb.toNatClampNeg) else 0)))) (fun q9 : Mc => q9.2.2.2.2.2.2.2 = rkm 1 2 0 (fApa va vb vw) ∧ mI bd q9 σ Hh n K fl tx ln) (fun q9 : Mc => mQ cy ma q9 σ n fl tx ln) g (va_A (mQ cy ma q σ n fl tx ln) sz)) 0 0 (va_A (mQ cy ma q σ n fl tx ln) sz) := by
  obtain ⟨tr, dy, kp, wy, hp, sp, ou, rf⟩ := q
  obtain ⟨hwf, hn14, hdy, hkp, htx, hln⟩ := hI
  have hdy : ∀ k, k < n → ∀ j, j < 248 → dy (248 * k + j) = Hh k j := hdy
  have hkp : ∀ k, k < 2 → fl k = true → ∀ j, j < 248 → kp (248 * k + j) = K k j := hkp
  refine mt_of (cc := cX8_apart) (maxL := 4) (ret := (some .int)) (by decide +kernel) (Nat.le_of_ble_eq_true rfl) ?_
  intro pX eX s mX below meth cX ls A hx hb hr hml hown hts hlk hin hsz hAe hA hP hD hK hX hl
  subst hsz
  rw [← hAe]
  clear hAe
  have hP : va_P g vwCl [(ma 0, .inr (6, [.int (nI rf), .ref (ma 1), .int (nI ln), .ref (ma 2), .ref (ma 3), .ref (ma 4), .int (nI n), .ref (ma 5), .ref (ma 6), .ref (ma 7), .ref (ma 8), .int (nI sp), .int (nI ou)])), aI cy (ma 1) 120 (mS tx), aI cy (ma 2) 248 (mS σ), aI cy (ma 3) 248 (mS tr), aI cy (ma 4) 3472 (mS dy), aI cy (ma 5) 496 (mS kp), aZ cy (ma 6) 2 (fun j => bI (fl j)), aI cy (ma 7) 144 (mS wy), aI cy (ma 8) 8 (mS hp)] s.heap := hP
  have hD : va_D A [(ma 0, .inr (6, [.int (nI rf), .ref (ma 1), .int (nI ln), .ref (ma 2), .ref (ma 3), .ref (ma 4), .int (nI n), .ref (ma 5), .ref (ma 6), .ref (ma 7), .ref (ma 8), .int (nI sp), .int (nI ou)])), aI cy (ma 1) 120 (mS tx), aI cy (ma 2) 248 (mS σ), aI cy (ma 3) 248 (mS tr), aI cy (ma 4) 3472 (mS dy), aI cy (ma 5) 496 (mS kp), aZ cy (ma 6) 2 (fun j => bI (fl j)), aI cy (ma 7) 144 (mS wy), aI cy (ma 8) 8 (mS hp)] := hD
  have hl : lv_has ls 4 [(0, .ref (ma 0)), (1, .int va), (2, .int vb), (3, .int vw)] := hl
  have hS : va_S A s.heap s.heap [] := va_S.rf
  have hn0 := hwf.n0
  have hn1 := hwf.n1
  have hh2 := hwf.h2
  have hfr : fApa va vb vw = 0 ∨ 0 < rkm 1 2 0 (fApa va vb vw) := by unfold fApa rkm; (repeat' split) <;> omega
  have hfl9 : rkm 1 2 0 (fApa va vb vw) < 10 := by unfold rkm; (repeat' split) <;> omega
  refine lv_aload_n hx hb dX8_apart_0 rfl (lv_at hl 0 rfl) ?_
  refine jn_i (pcj := 34) (ls := ls) (st := [.ref (ma 0)]) (fun v9 => v9 = (nI (rkm 1 2 0 (fApa va vb vw)))) ?_ (fun jn34 => ?_)
  · intro v9 hv9
    subst hv9
    refine wr_call (wc := [(ma 0, .inr (6, [.int (nI rf), .ref (ma 1), .int (nI ln), .ref (ma 2), .ref (ma 3), .ref (ma 4), .int (nI n), .ref (ma 5), .ref (ma 6), .ref (ma 7), .ref (ma 8), .int (nI sp), .int (nI ou)]))]) (va_runV (As := [.int (nI (rkm 1 2 0 (fApa va vb vw)))]) (rest := []) ⟨hx, hb, hml, hown, hts⟩ (c_X8_refused l g cy (ma 0) (ma 1) (ma 2) (ma 3) (ma 4) (ma 5) (ma 6) (ma 7) (ma 8) s.heap.size rf ln n sp ou (rkm 1 2 0 (fApa va vb vw)) (by omega)) ⟨(cB 1 hts wd7_21 wd1_5 wd7_18 rfl rfl (by decide +kernel) ⟨Nat.le_of_ble_eq_true rfl, Nat.le_of_ble_eq_true rfl⟩), hts _ wd7_19, hts _ wd7_20⟩ (pv hK hP hD hS hA hX [0] rfl rfl 6 0 rfl rfl) rfl rfl hl.1 rfl (lv_room (Nat.le_of_ble_eq_true rfl)) dX8_apart_34 ⟨Nat.zero_le _, Nat.zero_le _⟩) hP hD hS hA [0] rfl rfl (fun _ => (rfl : ([ma 0] : List Nat) = [ma 0])) ?_
    rintro _u9 H locs - hP hD hS
    have hP : va_P g vwCl [(ma 0, .inr (6, [.int (nI (rkm 1 2 0 (fApa va vb vw))), .ref (ma 1), .int (nI ln), .ref (ma 2), .ref (ma 3), .ref (ma 4), .int (nI n), .ref (ma 5), .ref (ma 6), .ref (ma 7), .ref (ma 8), .int (nI sp), .int (nI ou)])), aI cy (ma 1) 120 (mS tx), aI cy (ma 2) 248 (mS σ), aI cy (ma 3) 248 (mS tr), aI cy (ma 4) 3472 (mS dy), aI cy (ma 5) 496 (mS kp), aZ cy (ma 6) 2 (fun j => bI (fl j)), aI cy (ma 7) 144 (mS wy), aI cy (ma 8) 8 (mS hp)] H := hP
    have hD : va_D A [(ma 0, .inr (6, [.int (nI (rkm 1 2 0 (fApa va vb vw))), .ref (ma 1), .int (nI ln), .ref (ma 2), .ref (ma 3), .ref (ma 4), .int (nI n), .ref (ma 5), .ref (ma 6), .ref (ma 7), .ref (ma 8), .int (nI sp), .int (nI ou)])), aI cy (ma 1) 120 (mS tx), aI cy (ma 2) 248 (mS σ), aI cy (ma 3) 248 (mS tr), aI cy (ma 4) 3472 (mS dy), aI cy (ma 5) 496 (mS kp), aZ cy (ma 6) 2 (fun j => bI (fl j)), aI cy (ma 7) 144 (mS wy), aI cy (ma 8) 8 (mS hp)] := hD
    show W _ _ _ _ _ _ _ _ _ _ _ _ _ _ _ (F0 mX 37 ls [.int (bI (decide (0 < (rkm 1 2 0 (fApa va vb vw)))))])
    refine lv_if_eq (tgt := 42) hx hb dX8_apart_37 (by decide) (fun c_37 => ?_) (fun c_37 => ?_)
    · have c_37 := (bI_eq0.mp c_37)
      have c_37 : fApa va vb vw = 0 := hfr.resolve_right (of_decide_eq_false c_37)
      obtain ⟨a9, b9, rfl, rfl, ha9, hb9⟩ := fApa_0 c_37
      have hdl := di_le (σ := σ) ha9 hb9
      refine lv_aload_n hx hb dX8_apart_42 rfl (lv_at hl 0 rfl) ?_
      refine lv_aload_n hx hb dX8_apart_43 rfl (lv_at hl 0 rfl) ?_
      refine va_get (D := g) (ci := 6) (v := .ref (ma 2)) (C := RX8) (T := TX8) (N := 13) hx hb hts bgX8 hown hK hP 0 rfl rfl 3 (by decide) (hts _ wd5_21) (fun _ h9 => h9) rfl dX8_apart_44 ?_
      refine wr_call (wc := [(ma 0, .inr (6, [.int (nI (rkm 1 2 0 (fApa (nI a9) (nI b9) vw))), .ref (ma 1), .int (nI ln), .ref (ma 2), .ref (ma 3), .ref (ma 4), .int (nI n), .ref (ma 5), .ref (ma 6), .ref (ma 7), .ref (ma 8), .int (nI sp), .int (nI ou)])), aI cy (ma 7) 144 (mS wy), aI cy (ma 2) 248 (mS σ)]) (va_runV (As := [.ref (ma 2)]) (rest := []) ⟨hx, hb, hml, hown, hts⟩ (c_X8_measure l g cy (ma 0) (ma 1) (ma 2) (ma 3) (ma 4) (ma 5) (ma 6) (ma 7) (ma 8) (ma 2) H.size (rkm 1 2 0 (fApa (nI a9) (nI b9) vw)) ln n sp ou wy σ bd hwf) ⟨(cB 1 hts wd13_20 wd1_5 wd13_17 rfl rfl (by decide +kernel) ⟨Nat.le_of_ble_eq_true rfl, Nat.le_of_ble_eq_true rfl⟩), hts _ wd13_18, hts _ wd13_19⟩ (pv hK hP hD hS hA hX [0, 7, 2] rfl rfl 6 0 rfl rfl) rfl rfl hl.1 rfl (lv_room (Nat.le_of_ble_eq_true rfl)) dX8_apart_47 ⟨Nat.zero_le _, Nat.zero_le _⟩) hP hD hS hA [0, 7, 2] rfl rfl (fun _ => (rfl : ([ma 0, ma 7, ma 2] : List Nat) = [ma 0, ma 7, ma 2])) ?_
      rintro _u9 H locs - hP hD hS
      have hP : va_P g vwCl [(ma 0, .inr (6, [.int (nI (rkm 1 2 0 (fApa (nI a9) (nI b9) vw))), .ref (ma 1), .int (nI ln), .ref (ma 2), .ref (ma 3), .ref (ma 4), .int (nI n), .ref (ma 5), .ref (ma 6), .ref (ma 7), .ref (ma 8), .int (nI sp), .int (nI ou)])), aI cy (ma 1) 120 (mS tx), aI cy (ma 2) 248 (mS σ), aI cy (ma 3) 248 (mS tr), aI cy (ma 4) 3472 (mS dy), aI cy (ma 5) 496 (mS kp), aZ cy (ma 6) 2 (fun j => bI (fl j)), aI cy (ma 7) 144 (mS (D σ)), aI cy (ma 8) 8 (mS hp)] H := hP
      have hD : va_D A [(ma 0, .inr (6, [.int (nI (rkm 1 2 0 (fApa (nI a9) (nI b9) vw))), .ref (ma 1), .int (nI ln), .ref (ma 2), .ref (ma 3), .ref (ma 4), .int (nI n), .ref (ma 5), .ref (ma 6), .ref (ma 7), .ref (ma 8), .int (nI sp), .int (nI ou)])), aI cy (ma 1) 120 (mS tx), aI cy (ma 2) 248 (mS σ), aI cy (ma 3) 248 (mS tr), aI cy (ma 4) 3472 (mS dy), aI cy (ma 5) 496 (mS kp), aZ cy (ma 6) 2 (fun j => bI (fl j)), aI cy (ma 7) 144 (mS (D σ)), aI cy (ma 8) 8 (mS hp)] := hD
      show W _ _ _ _ _ _ _ _ _ _ _ _ _ _ _ (F0 mX 50 ls [])
      refine lv_aload_n hx hb dX8_apart_50 rfl (lv_at hl 0 rfl) ?_
      refine va_get (D := g) (ci := 6) (v := .ref (ma 7)) (C := RX8) (T := TX8) (N := 13) hx hb hts bgX8 hown hK hP 0 rfl rfl 9 (by decide) (hts _ wd6_2) (fun _ h9 => h9) rfl dX8_apart_51 ?_
      refine lv_bipush (v := (nI 12)) hx hb dX8_apart_54 (by decide) ?_
      refine lv_iload_n hx hb dX8_apart_56 rfl (lv_at hl 1 rfl) ?_
      refine lv_imul hx hb dX8_apart_57 ?_
      refine ti (pk_mul 12 a9) ?_
      refine lv_iload_n hx hb dX8_apart_58 rfl (lv_at hl 2 rfl) ?_
      refine lv_iadd hx hb dX8_apart_59 ?_
      refine ti (nI_add (12 * a9) b9) ?_
      refine va_iald hx hb hK hP 7 0 rfl rfl (vp_in_nI (n := ((12 * a9) + b9)) (by omega) (by omega)) dX8_apart_60 ?_
      refine ti (show (mS (D σ)) (nI ((12 * a9) + b9)).toNatClampNeg = nI ((D σ) ((12 * a9) + b9)) from by rw [nI_clamp (by omega)]; rfl) ?_
      refine ti (show (nI ((D σ) ((12 * a9) + b9))) = (nI (di σ a9 b9)) from rfl) ?_
      refine lv_bipush (v := (nI 99)) hx hb dX8_apart_61 (by decide) ?_
      refine lv_icmp_ge (tgt := 80) hx hb dX8_apart_63 (by decide) (fun c_63 => ?_) (fun c_63 => ?_)
      · have c_63 := (nc_le (by omega) (by omega) c_63)
        refine lv_iconst (v := (nI NN)) hx hb dX8_apart_80 (by decide) ?_
        exact wr_i (tr, dy, kp, D σ, hp, sp, ou, rkm 1 2 0 (fApa (nI a9) (nI b9) vw)) (by rw [if_pos c_37, nI_clamp (by omega), nI_clamp (by omega), wv_at, if_neg (Nat.not_lt.mpr c_63), nI_NN]) ⟨rfl, ⟨hwf, hn14, hdy, hkp, htx, hln⟩⟩ hP hS hx hb hr dX8_apart_81 hlk
      · have c_63 := (nc_nle (by omega) (by omega) c_63)
        refine lv_aload_n hx hb dX8_apart_66 rfl (lv_at hl 0 rfl) ?_
        refine va_get (D := g) (ci := 6) (v := .ref (ma 7)) (C := RX8) (T := TX8) (N := 13) hx hb hts bgX8 hown hK hP 0 rfl rfl 9 (by decide) (hts _ wd6_2) (fun _ h9 => h9) rfl dX8_apart_67 ?_
        refine lv_bipush (v := (nI 12)) hx hb dX8_apart_70 (by decide) ?_
        refine lv_iload_n hx hb dX8_apart_72 rfl (lv_at hl 1 rfl) ?_
        refine lv_imul hx hb dX8_apart_73 ?_
        refine ti (pk_mul 12 a9) ?_
        refine lv_iload_n hx hb dX8_apart_74 rfl (lv_at hl 2 rfl) ?_
        refine lv_iadd hx hb dX8_apart_75 ?_
        refine ti (nI_add (12 * a9) b9) ?_
        refine va_iald hx hb hK hP 7 0 rfl rfl (vp_in_nI (n := ((12 * a9) + b9)) (by omega) (by omega)) dX8_apart_76 ?_
        refine ti (show (mS (D σ)) (nI ((12 * a9) + b9)).toNatClampNeg = nI ((D σ) ((12 * a9) + b9)) from by rw [nI_clamp (by omega)]; rfl) ?_
        refine ti (show (nI ((D σ) ((12 * a9) + b9))) = (nI (di σ a9 b9)) from rfl) ?_
        refine lv_goto (tgt := 81) hx hb dX8_apart_77 (by decide) ?_
        exact wr_i (tr, dy, kp, D σ, hp, sp, ou, rkm 1 2 0 (fApa (nI a9) (nI b9) vw)) (by rw [if_pos c_37, nI_clamp (by omega), nI_clamp (by omega), wv_at, if_pos c_63]) ⟨rfl, ⟨hwf, hn14, hdy, hkp, htx, hln⟩⟩ hP hS hx hb hr dX8_apart_81 hlk
    · have c_37 := (bI_ne0.mp c_37)
      have c_37 : ¬ fApa va vb vw = 0 := fun e => by rw [e] at c_37; exact absurd c_37 (by decide)
      refine lv_iconst (v := (nI 0)) hx hb dX8_apart_40 (by decide) ?_
      exact wr_i (tr, dy, kp, wy, hp, sp, ou, rkm 1 2 0 (fApa va vb vw)) (by rw [if_neg c_37]; rfl) ⟨rfl, (by skip; exact ⟨hwf, hn14, hdy, hkp, htx, hln⟩)⟩ (by skip; exact hP) hS hx hb hr dX8_apart_41 hlk
  · skip
    refine lv_iload_n hx hb dX8_apart_1 rfl (lv_at hl 1 rfl) ?_
    refine rd_call (va_runS (As := [.int va]) (rest := [.ref (ma 0)]) ⟨hx, hb, hml, hown, hts⟩ (c_X8_isCorner l va ) ⟨(cB 1 hts wd28_15 wd1_5 wd28_13 rfl rfl (by decide +kernel) ⟨Nat.le_of_ble_eq_true rfl, Nat.le_of_ble_eq_true rfl⟩), hts _ wd28_14⟩ p0 rfl rfl hl.1 rfl (lv_room (Nat.le_of_ble_eq_true rfl)) dX8_apart_2 ⟨Nat.zero_le _, Nat.zero_le _⟩) ?_
    show W _ _ _ _ _ _ _ _ _ _ _ _ _ _ _ (F0 mX 5 ls [.int (bI (inR va (nI 0) (nI 11))), .ref (ma 0)])
    refine lv_if_eq (tgt := 15) hx hb dX8_apart_5 (by decide) (fun c_5 => ?_) (fun c_5 => ?_)
    · have c_5 := (bI_eq0.mp c_5)
      refine lv_iconst (v := (nI 1)) hx hb dX8_apart_15 (by decide) ?_
      refine lv_goto (tgt := 34) hx hb dX8_apart_16 (by decide) ?_
      exact jn34 _ (congrArg nI (by simp [rkm, fApa, c_5]))
    · have c_5 := (bI_ne0.mp c_5)
      refine lv_iload_n hx hb dX8_apart_8 rfl (lv_at hl 2 rfl) ?_
      refine rd_call (va_runS (As := [.int vb]) (rest := [.ref (ma 0)]) ⟨hx, hb, hml, hown, hts⟩ (c_X8_isCorner l vb ) ⟨(cB 1 hts wd28_15 wd1_5 wd28_13 rfl rfl (by decide +kernel) ⟨Nat.le_of_ble_eq_true rfl, Nat.le_of_ble_eq_true rfl⟩), hts _ wd28_14⟩ p0 rfl rfl hl.1 rfl (lv_room (Nat.le_of_ble_eq_true rfl)) dX8_apart_9 ⟨Nat.zero_le _, Nat.zero_le _⟩) ?_
      show W _ _ _ _ _ _ _ _ _ _ _ _ _ _ _ (F0 mX 12 ls [.int (bI (inR vb (nI 0) (nI 11))), .ref (ma 0)])
      refine lv_if_ne (tgt := 19) hx hb dX8_apart_12 (by decide) (fun c_12 => ?_) (fun c_12 => ?_)
      · have c_12 := (bI_ne0.mp c_12)
        refine lv_iload_n hx hb dX8_apart_19 rfl (lv_at hl 3 rfl) ?_
        refine lv_i2l (v := vw.toInt64) hx hb dX8_apart_20 rfl ?_
        refine lv_lconst (v := 0) hx hb dX8_apart_21 rfl ?_
        refine lv_lconst (v := 1) hx hb dX8_apart_22 rfl ?_
        refine rd_call (va_runS (As := [.long vw.toInt64, .long (0 : Int64), .long (1 : Int64)]) (rest := [.ref (ma 0)]) ⟨hx, hb, hml, hown, hts⟩ (c_X8_in l vw.toInt64 (0 : Int64) (1 : Int64) ) ⟨(cB 3 hts wd7_17 wd1_5 wd7_15 rfl rfl (by decide +kernel) ⟨Nat.le_of_ble_eq_true rfl, Nat.le_of_ble_eq_true rfl⟩), hts _ wd7_16⟩ p0 rfl rfl hl.1 rfl (lv_room (Nat.le_of_ble_eq_true rfl)) dX8_apart_23 ⟨Nat.zero_le _, Nat.zero_le _⟩) ?_
        show W _ _ _ _ _ _ _ _ _ _ _ _ _ _ _ (F0 mX 26 ls [.int (bI (inL vw.toInt64 (0 : Int64) (1 : Int64))), .ref (ma 0)])
        refine ti (show (bI (inL vw.toInt64 (0 : Int64) (1 : Int64))) = (bI (inR vw (nI 0) (nI 1))) from (congrArg bI (inL_c (a := 0) (b := 1) (by decide) (by decide)))) ?_
        refine lv_if_eq (tgt := 33) hx hb dX8_apart_26 (by decide) (fun c_26 => ?_) (fun c_26 => ?_)
        · have c_26 := (bI_eq0.mp c_26)
          refine lv_iconst (v := (nI 2)) hx hb dX8_apart_33 (by decide) ?_
          exact jn34 _ (congrArg nI (by simp [rkm, fApa, c_5, c_12, c_26]))
        · have c_26 := (bI_ne0.mp c_26)
          refine lv_iconst (v := (nI 0)) hx hb dX8_apart_29 (by decide) ?_
          refine lv_goto (tgt := 34) hx hb dX8_apart_30 (by decide) ?_
          exact jn34 _ (congrArg nI (by simp [rkm, fApa, c_5, c_12, c_26]))
      · have c_12 := (bI_eq0.mp c_12)
        refine lv_iconst (v := (nI 1)) hx hb dX8_apart_15 (by decide) ?_
        refine lv_goto (tgt := 34) hx hb dX8_apart_16 (by decide) ?_
        exact jn34 _ (congrArg nI (by simp [rkm, fApa, c_5, c_12]))
set_option maxHeartbeats 4000000 in
set_option maxRecDepth 100000 in
theorem c_X8_canBe (l : Launch) (g : va_G) (cy : Nat → ClassId) (ma : Nat → Nat) (sz : Nat) (bd : Nat) (q : Mc) (σ : Nat → Nat) (Hh : Nat → Nat → Nat) (n : Nat) (K : Nat → Nat → Nat) (fl : Nat → Bool) (tx : Nat → Nat) (ln : Nat) (vd : Int32) (hI : mI bd q σ Hh n K fl tx ln) : Met l yX8_canBe (Cond.code yX8_canBe cX8_canBe 4 (some .int) :: wsL_law) ({ frames := 5, cells := 0, slots := 0, locals := 117 } : Room) (va_Pc [.ref (ma 0), .int vd] (pr g cy (mQ cy ma q σ n fl tx ln) sz)) (wr_Q (fun _ : Mc => (some (.int (nI (if fAsk σ vd = 0 then mk (cbe σ vd.toNatClampNeg) 12 else 0))))) (fun q9 : Mc => q9.2.2.2.2.2.2.2 = rkm 1 0 2 (fAsk σ vd) ∧ mI bd q9 σ Hh n K fl tx ln) (fun q9 : Mc => mQ cy ma q9 σ n fl tx ln) g (va_A (mQ cy ma q σ n fl tx ln) sz)) 0 0 (va_A (mQ cy ma q σ n fl tx ln) sz) := by
  obtain ⟨tr, dy, kp, wy, hp, sp, ou, rf⟩ := q
  obtain ⟨hwf, hn14, hdy, hkp, htx, hln⟩ := hI
  have hdy : ∀ k, k < n → ∀ j, j < 248 → dy (248 * k + j) = Hh k j := hdy
  have hkp : ∀ k, k < 2 → fl k = true → ∀ j, j < 248 → kp (248 * k + j) = K k j := hkp
  refine mt_of (cc := cX8_canBe) (maxL := 4) (ret := (some .int)) (by decide +kernel) (Nat.le_of_ble_eq_true rfl) ?_
  intro pX eX s mX below meth cX ls A hx hb hr hml hown hts hlk hin hsz hAe hA hP hD hK hX hl
  subst hsz
  rw [← hAe]
  clear hAe
  have hP : va_P g vwCl [(ma 0, .inr (6, [.int (nI rf), .ref (ma 1), .int (nI ln), .ref (ma 2), .ref (ma 3), .ref (ma 4), .int (nI n), .ref (ma 5), .ref (ma 6), .ref (ma 7), .ref (ma 8), .int (nI sp), .int (nI ou)])), aI cy (ma 1) 120 (mS tx), aI cy (ma 2) 248 (mS σ), aI cy (ma 3) 248 (mS tr), aI cy (ma 4) 3472 (mS dy), aI cy (ma 5) 496 (mS kp), aZ cy (ma 6) 2 (fun j => bI (fl j)), aI cy (ma 7) 144 (mS wy), aI cy (ma 8) 8 (mS hp)] s.heap := hP
  have hD : va_D A [(ma 0, .inr (6, [.int (nI rf), .ref (ma 1), .int (nI ln), .ref (ma 2), .ref (ma 3), .ref (ma 4), .int (nI n), .ref (ma 5), .ref (ma 6), .ref (ma 7), .ref (ma 8), .int (nI sp), .int (nI ou)])), aI cy (ma 1) 120 (mS tx), aI cy (ma 2) 248 (mS σ), aI cy (ma 3) 248 (mS tr), aI cy (ma 4) 3472 (mS dy), aI cy (ma 5) 496 (mS kp), aZ cy (ma 6) 2 (fun j => bI (fl j)), aI cy (ma 7) 144 (mS wy), aI cy (ma 8) 8 (mS hp)] := hD
  have hl : lv_has ls 4 [(0, .ref (ma 0)), (1, .int vd)] := hl
  have hS : va_S A s.heap s.heap [] := va_S.rf
  have hn0 := hwf.n0
  have hn1 := hwf.n1
  have hh2 := hwf.h2
  have hfr : fAsk σ vd = 0 ∨ 0 < rkm 1 0 2 (fAsk σ vd) := by unfold fAsk rkm; (repeat' split) <;> omega
  have hfl9 : rkm 1 0 2 (fAsk σ vd) < 10 := by unfold rkm; (repeat' split) <;> omega
  refine lv_aload_n hx hb dX8_canBe_0 rfl (lv_at hl 0 rfl) ?_
  refine jn_i (pcj := 32) (ls := ls) (st := [.ref (ma 0)]) (fun v9 => v9 = (nI (rkm 1 0 2 (fAsk σ vd)))) ?_ (fun jn32 => ?_)
  · intro v9 hv9
    subst hv9
    refine wr_call (wc := [(ma 0, .inr (6, [.int (nI rf), .ref (ma 1), .int (nI ln), .ref (ma 2), .ref (ma 3), .ref (ma 4), .int (nI n), .ref (ma 5), .ref (ma 6), .ref (ma 7), .ref (ma 8), .int (nI sp), .int (nI ou)]))]) (va_runV (As := [.int (nI (rkm 1 0 2 (fAsk σ vd)))]) (rest := []) ⟨hx, hb, hml, hown, hts⟩ (c_X8_refused l g cy (ma 0) (ma 1) (ma 2) (ma 3) (ma 4) (ma 5) (ma 6) (ma 7) (ma 8) s.heap.size rf ln n sp ou (rkm 1 0 2 (fAsk σ vd)) (by omega)) ⟨(cB 1 hts wd7_21 wd1_5 wd7_18 rfl rfl (by decide +kernel) ⟨Nat.le_of_ble_eq_true rfl, Nat.le_of_ble_eq_true rfl⟩), hts _ wd7_19, hts _ wd7_20⟩ (pv hK hP hD hS hA hX [0] rfl rfl 6 0 rfl rfl) rfl rfl hl.1 rfl (lv_room (Nat.le_of_ble_eq_true rfl)) dX8_canBe_32 ⟨Nat.zero_le _, Nat.zero_le _⟩) hP hD hS hA [0] rfl rfl (fun _ => (rfl : ([ma 0] : List Nat) = [ma 0])) ?_
    rintro _u9 H locs - hP hD hS
    have hP : va_P g vwCl [(ma 0, .inr (6, [.int (nI (rkm 1 0 2 (fAsk σ vd))), .ref (ma 1), .int (nI ln), .ref (ma 2), .ref (ma 3), .ref (ma 4), .int (nI n), .ref (ma 5), .ref (ma 6), .ref (ma 7), .ref (ma 8), .int (nI sp), .int (nI ou)])), aI cy (ma 1) 120 (mS tx), aI cy (ma 2) 248 (mS σ), aI cy (ma 3) 248 (mS tr), aI cy (ma 4) 3472 (mS dy), aI cy (ma 5) 496 (mS kp), aZ cy (ma 6) 2 (fun j => bI (fl j)), aI cy (ma 7) 144 (mS wy), aI cy (ma 8) 8 (mS hp)] H := hP
    have hD : va_D A [(ma 0, .inr (6, [.int (nI (rkm 1 0 2 (fAsk σ vd))), .ref (ma 1), .int (nI ln), .ref (ma 2), .ref (ma 3), .ref (ma 4), .int (nI n), .ref (ma 5), .ref (ma 6), .ref (ma 7), .ref (ma 8), .int (nI sp), .int (nI ou)])), aI cy (ma 1) 120 (mS tx), aI cy (ma 2) 248 (mS σ), aI cy (ma 3) 248 (mS tr), aI cy (ma 4) 3472 (mS dy), aI cy (ma 5) 496 (mS kp), aZ cy (ma 6) 2 (fun j => bI (fl j)), aI cy (ma 7) 144 (mS wy), aI cy (ma 8) 8 (mS hp)] := hD
    show W _ _ _ _ _ _ _ _ _ _ _ _ _ _ _ (F0 mX 35 ls [.int (bI (decide (0 < (rkm 1 0 2 (fAsk σ vd)))))])
    refine lv_if_eq (tgt := 40) hx hb dX8_canBe_35 (by decide) (fun c_35 => ?_) (fun c_35 => ?_)
    · have c_35 := (bI_eq0.mp c_35)
      have c_35 : fAsk σ vd = 0 := hfr.resolve_right (of_decide_eq_false c_35)
      obtain ⟨d9, rfl, hd9, hm9⟩ := fAsk_0 (by omega) c_35
      refine lv_aload_n hx hb dX8_canBe_40 rfl (lv_at hl 0 rfl) ?_
      refine lv_aload_n hx hb dX8_canBe_41 rfl (lv_at hl 0 rfl) ?_
      refine va_get (D := g) (ci := 6) (v := .ref (ma 2)) (C := RX8) (T := TX8) (N := 13) hx hb hts bgX8 hown hK hP 0 rfl rfl 3 (by decide) (hts _ wd5_21) (fun _ h9 => h9) rfl dX8_canBe_42 ?_
      refine wr_call (wc := [(ma 0, .inr (6, [.int (nI (rkm 1 0 2 (fAsk σ (nI d9)))), .ref (ma 1), .int (nI ln), .ref (ma 2), .ref (ma 3), .ref (ma 4), .int (nI n), .ref (ma 5), .ref (ma 6), .ref (ma 7), .ref (ma 8), .int (nI sp), .int (nI ou)])), aI cy (ma 7) 144 (mS wy), aI cy (ma 2) 248 (mS σ)]) (va_runV (As := [.ref (ma 2)]) (rest := []) ⟨hx, hb, hml, hown, hts⟩ (c_X8_measure l g cy (ma 0) (ma 1) (ma 2) (ma 3) (ma 4) (ma 5) (ma 6) (ma 7) (ma 8) (ma 2) H.size (rkm 1 0 2 (fAsk σ (nI d9))) ln n sp ou wy σ bd hwf) ⟨(cB 1 hts wd13_20 wd1_5 wd13_17 rfl rfl (by decide +kernel) ⟨Nat.le_of_ble_eq_true rfl, Nat.le_of_ble_eq_true rfl⟩), hts _ wd13_18, hts _ wd13_19⟩ (pv hK hP hD hS hA hX [0, 7, 2] rfl rfl 6 0 rfl rfl) rfl rfl hl.1 rfl (lv_room (Nat.le_of_ble_eq_true rfl)) dX8_canBe_45 ⟨Nat.zero_le _, Nat.zero_le _⟩) hP hD hS hA [0, 7, 2] rfl rfl (fun _ => (rfl : ([ma 0, ma 7, ma 2] : List Nat) = [ma 0, ma 7, ma 2])) ?_
      rintro _u9 H locs - hP hD hS
      have hP : va_P g vwCl [(ma 0, .inr (6, [.int (nI (rkm 1 0 2 (fAsk σ (nI d9)))), .ref (ma 1), .int (nI ln), .ref (ma 2), .ref (ma 3), .ref (ma 4), .int (nI n), .ref (ma 5), .ref (ma 6), .ref (ma 7), .ref (ma 8), .int (nI sp), .int (nI ou)])), aI cy (ma 1) 120 (mS tx), aI cy (ma 2) 248 (mS σ), aI cy (ma 3) 248 (mS tr), aI cy (ma 4) 3472 (mS dy), aI cy (ma 5) 496 (mS kp), aZ cy (ma 6) 2 (fun j => bI (fl j)), aI cy (ma 7) 144 (mS (D σ)), aI cy (ma 8) 8 (mS hp)] H := hP
      have hD : va_D A [(ma 0, .inr (6, [.int (nI (rkm 1 0 2 (fAsk σ (nI d9)))), .ref (ma 1), .int (nI ln), .ref (ma 2), .ref (ma 3), .ref (ma 4), .int (nI n), .ref (ma 5), .ref (ma 6), .ref (ma 7), .ref (ma 8), .int (nI sp), .int (nI ou)])), aI cy (ma 1) 120 (mS tx), aI cy (ma 2) 248 (mS σ), aI cy (ma 3) 248 (mS tr), aI cy (ma 4) 3472 (mS dy), aI cy (ma 5) 496 (mS kp), aZ cy (ma 6) 2 (fun j => bI (fl j)), aI cy (ma 7) 144 (mS (D σ)), aI cy (ma 8) 8 (mS hp)] := hD
      show W _ _ _ _ _ _ _ _ _ _ _ _ _ _ _ (F0 mX 48 ls [])
      refine lv_iconst (v := (nI 0)) hx hb dX8_canBe_48 (by decide) ?_
      refine lv_istore_n (lv' := [(2, .int (nI 0)), (0, .ref (ma 0)), (1, .int (nI d9))]) hx hb dX8_canBe_49 rfl hl (by decide) rfl (fun ls hl => ?_)
      refine lv_iconst (v := (nI 0)) hx hb dX8_canBe_50 (by decide) ?_
      refine lv_istore_n (lv' := [(3, .int (nI 0)), (2, .int (nI 0)), (0, .ref (ma 0)), (1, .int (nI d9))]) hx hb dX8_canBe_51 rfl hl (by decide) rfl (fun ls hl => ?_)
      have hl : lv_has ls 4 [(3, .int (nI 0)), (2, .int (nI (mk (cbe σ d9) 0))), (0, .ref (ma 0)), (1, .int (nI d9))] := by rw [← show (nI 0) = (nI (mk (cbe σ d9) 0)) from rfl]; exact hl
      refine lp_rd (σ := (Nat)) (fun x9 ls9 => lv_has ls9 4 [(0, .ref (ma 0)), (1, .int (nI d9)), (2, .int (nI (mk (cbe σ d9) x9))), (3, .int (nI x9))] ∧ (x9 ≤ 12)) (fun x9 => 12 - x9) (0) ⟨lv_sub hl [2, 3, 1, 0] rfl, (by omega)⟩ ?_
      rintro c ls ⟨hl, hc⟩ ih52
      try dsimp only at hl hc ih52
      refine lv_iload_n hx hb dX8_canBe_52 rfl (lv_at hl 3 rfl) ?_
      refine lv_bipush (v := (nI 12)) hx hb dX8_canBe_53 (by decide) ?_
      refine lv_icmp_ge (tgt := 87) hx hb dX8_canBe_55 (by decide) (fun c_55 => ?_) (fun c_55 => ?_)
      · have c_55 := (nc_le (by omega) (by omega) c_55)
        have e9 : c = 12 := by omega
        subst e9
        refine lv_iload_n hx hb dX8_canBe_87 rfl (lv_at hl 2 rfl) ?_
        exact wr_i (tr, dy, kp, D σ, hp, sp, ou, rkm 1 0 2 (fAsk σ (nI d9))) (by rw [if_pos c_35, nI_clamp (by omega)]) ⟨rfl, ⟨hwf, hn14, hdy, hkp, htx, hln⟩⟩ hP hS hx hb hr dX8_canBe_88 hlk
      · have c_55 := (nc_nle (by omega) (by omega) c_55)
        refine lv_iload_n hx hb dX8_canBe_58 rfl (lv_at hl 2 rfl) ?_
        refine lv_aload_n hx hb dX8_canBe_59 rfl (lv_at hl 0 rfl) ?_
        refine lv_aload_n hx hb dX8_canBe_60 rfl (lv_at hl 0 rfl) ?_
        refine va_get (D := g) (ci := 6) (v := .ref (ma 2)) (C := RX8) (T := TX8) (N := 13) hx hb hts bgX8 hown hK hP 0 rfl rfl 3 (by decide) (hts _ wd5_21) (fun _ h9 => h9) rfl dX8_canBe_61 ?_
        refine lv_iload_n hx hb dX8_canBe_64 rfl (lv_at hl 1 rfl) ?_
        refine lv_iload_n hx hb dX8_canBe_65 rfl (lv_at hl 3 rfl) ?_
        refine rd_call (va_runV (As := [.ref (ma 2), .int (nI d9), .int (nI c)]) (rest := [.int (nI (mk (cbe σ d9) c))]) ⟨hx, hb, hml, hown, hts⟩ (c_X8_canBeAt l g cy (ma 0) (ma 1) (ma 2) (ma 3) (ma 4) (ma 5) (ma 6) (ma 7) (ma 8) (ma 2) H.size (rkm 1 0 2 (fAsk σ (nI d9))) ln n sp ou (D σ) σ bd d9 c hwf (fun _ _ => rfl) (by omega) (by omega)) ⟨(cB 3 hts wd36_0 wd1_5 wd35_21 rfl rfl (by decide +kernel) ⟨Nat.le_of_ble_eq_true rfl, Nat.le_of_ble_eq_true rfl⟩), hts _ wd35_22, hts _ wd35_23⟩ (pv hK hP hD hS hA hX [0, 7, 2] rfl rfl 6 0 rfl rfl) rfl rfl hl.1 rfl (lv_room (Nat.le_of_ble_eq_true rfl)) dX8_canBe_66 ⟨Nat.zero_le _, Nat.zero_le _⟩) ?_
        show W _ _ _ _ _ _ _ _ _ _ _ _ _ _ _ (F0 mX 69 ls [.int (bI (cbe σ d9 c)), .int (nI (mk (cbe σ d9) c))])
        refine lv_if_eq (tgt := 78) hx hb dX8_canBe_69 (by decide) (fun c_69 => ?_) (fun c_69 => ?_)
        · have c_69 := (bI_eq0.mp c_69)
          refine lv_iconst (v := (nI 0)) hx hb dX8_canBe_78 (by decide) ?_
          refine lv_ior hx hb dX8_canBe_79 ?_
          refine ti (nx_or (mk (cbe σ d9) c) 0) ?_
          refine lv_istore_n (lv' := [(2, .int (nI ((mk (cbe σ d9) c) ||| 0))), (0, .ref (ma 0)), (1, .int (nI d9)), (3, .int (nI c))]) hx hb dX8_canBe_80 rfl hl (by decide) rfl (fun ls hl => ?_)
          have hl : lv_has ls 4 [(2, .int (nI (mk (cbe σ d9) (c + 1)))), (0, .ref (ma 0)), (1, .int (nI d9)), (3, .int (nI c))] := by rw [← show (nI ((mk (cbe σ d9) c) ||| 0)) = (nI (mk (cbe σ d9) (c + 1))) from (congrArg nI (by rw [Nat.or_zero]; exact (mk_s0 c_69).symm))]; exact hl
          refine lv_iinc (v := (nI (c + 1))) (lv' := [(3, .int (nI (c + 1))), (2, .int (nI (mk (cbe σ d9) (c + 1)))), (0, .ref (ma 0)), (1, .int (nI d9))]) hx hb dX8_canBe_81 hl (k := 3) rfl (nI_add c 1) (by decide) rfl (fun ls hl => ?_)
          refine lv_goto (tgt := 52) hx hb dX8_canBe_84 (by decide) ?_
          exact ih52 (c + 1) ls ⟨lv_sub hl [2, 3, 1, 0] rfl, (by omega)⟩ (by first | omega | (dsimp only; omega))
        · have c_69 := (bI_ne0.mp c_69)
          refine lv_iconst (v := (nI 1)) hx hb dX8_canBe_72 (by decide) ?_
          refine lv_iload_n hx hb dX8_canBe_73 rfl (lv_at hl 3 rfl) ?_
          refine lv_ishl hx hb dX8_canBe_74 ?_
          refine ti (nb_shl (k := c) (by omega)) ?_
          refine lv_goto (tgt := 79) hx hb dX8_canBe_75 (by decide) ?_
          refine lv_ior hx hb dX8_canBe_79 ?_
          refine ti (nx_or (mk (cbe σ d9) c) (2 ^ c)) ?_
          refine lv_istore_n (lv' := [(2, .int (nI ((mk (cbe σ d9) c) ||| (2 ^ c)))), (0, .ref (ma 0)), (1, .int (nI d9)), (3, .int (nI c))]) hx hb dX8_canBe_80 rfl hl (by decide) rfl (fun ls hl => ?_)
          have hl : lv_has ls 4 [(2, .int (nI (mk (cbe σ d9) (c + 1)))), (0, .ref (ma 0)), (1, .int (nI d9)), (3, .int (nI c))] := by rw [← show (nI ((mk (cbe σ d9) c) ||| (2 ^ c))) = (nI (mk (cbe σ d9) (c + 1))) from (congrArg nI (mk_top c_69))]; exact hl
          refine lv_iinc (v := (nI (c + 1))) (lv' := [(3, .int (nI (c + 1))), (2, .int (nI (mk (cbe σ d9) (c + 1)))), (0, .ref (ma 0)), (1, .int (nI d9))]) hx hb dX8_canBe_81 hl (k := 3) rfl (nI_add c 1) (by decide) rfl (fun ls hl => ?_)
          refine lv_goto (tgt := 52) hx hb dX8_canBe_84 (by decide) ?_
          exact ih52 (c + 1) ls ⟨lv_sub hl [2, 3, 1, 0] rfl, (by omega)⟩ (by first | omega | (dsimp only; omega))
    · have c_35 := (bI_ne0.mp c_35)
      have c_35 : ¬ fAsk σ vd = 0 := fun e => by rw [e] at c_35; exact absurd c_35 (by decide)
      refine lv_iconst (v := (nI 0)) hx hb dX8_canBe_38 (by decide) ?_
      exact wr_i (tr, dy, kp, wy, hp, sp, ou, rkm 1 0 2 (fAsk σ vd)) (by rw [if_neg c_35]) ⟨rfl, (by skip; exact ⟨hwf, hn14, hdy, hkp, htx, hln⟩)⟩ (by skip; exact hP) hS hx hb hr dX8_canBe_39 hlk
  · skip
    refine lv_aload_n hx hb dX8_canBe_1 rfl (lv_at hl 0 rfl) ?_
    refine va_get (D := g) (ci := 6) (v := .ref (ma 2)) (C := RX8) (T := TX8) (N := 13) hx hb hts bgX8 hown hK hP 0 rfl rfl 3 (by decide) (hts _ wd5_21) (fun _ h9 => h9) rfl dX8_canBe_2 ?_
    refine lv_iload_n hx hb dX8_canBe_5 rfl (lv_at hl 1 rfl) ?_
    refine rd_call (va_runS (As := [.ref (ma 2), .int vd]) (rest := [.ref (ma 0)]) ⟨hx, hb, hml, hown, hts⟩ (c_X8_isDog l g cy (ma 2) s.heap.size σ vd (by omega)) ⟨(cB 2 hts wd13_12 wd1_5 wd13_10 rfl rfl (by decide +kernel) ⟨Nat.le_of_ble_eq_true rfl, Nat.le_of_ble_eq_true rfl⟩), hts _ wd13_11⟩ (ps hK hP hD hS hA hX [2] rfl rfl) rfl rfl hl.1 rfl (lv_room (Nat.le_of_ble_eq_true rfl)) dX8_canBe_6 ⟨Nat.zero_le _, Nat.zero_le _⟩) ?_
    show W _ _ _ _ _ _ _ _ _ _ _ _ _ _ _ (F0 mX 9 ls [.int (bI (hasR (σ 0) vd)), .ref (ma 0)])
    refine lv_if_ne (tgt := 16) hx hb dX8_canBe_9 (by decide) (fun c_9 => ?_) (fun c_9 => ?_)
    · have c_9 := (bI_ne0.mp c_9)
      obtain ⟨d9, hd9, rfl⟩ := hasR_ex (by omega) c_9
      have hdb := hwf.db hd9
      refine lv_aload_n hx hb dX8_canBe_16 rfl (lv_at hl 0 rfl) ?_
      refine va_get (D := g) (ci := 6) (v := .ref (ma 2)) (C := RX8) (T := TX8) (N := 13) hx hb hts bgX8 hown hK hP 0 rfl rfl 3 (by decide) (hts _ wd5_21) (fun _ h9 => h9) rfl dX8_canBe_17 ?_
      refine lv_iload_n hx hb dX8_canBe_20 rfl (lv_at hl 1 rfl) ?_
      refine rd_call (va_runS (As := [.ref (ma 2), .int (nI d9)]) (rest := [.ref (ma 0)]) ⟨hx, hb, hml, hown, hts⟩ (c_X8_isMissing l g cy (ma 2) s.heap.size σ d9 (by omega) (by omega)) ⟨(cB 2 hts wd12_20 wd1_5 wd12_18 rfl rfl (by decide +kernel) ⟨Nat.le_of_ble_eq_true rfl, Nat.le_of_ble_eq_true rfl⟩), hts _ wd12_19⟩ (ps hK hP hD hS hA hX [2] rfl rfl) rfl rfl hl.1 rfl (lv_room (Nat.le_of_ble_eq_true rfl)) dX8_canBe_21 ⟨Nat.zero_le _, Nat.zero_le _⟩) ?_
      show W _ _ _ _ _ _ _ _ _ _ _ _ _ _ _ (F0 mX 24 ls [.int (bI (msg σ d9)), .ref (ma 0)])
      refine lv_if_eq (tgt := 31) hx hb dX8_canBe_24 (by decide) (fun c_24 => ?_) (fun c_24 => ?_)
      · have c_24 := (bI_eq0.mp c_24)
        refine lv_iconst (v := (nI 2)) hx hb dX8_canBe_31 (by decide) ?_
        exact jn32 _ (congrArg nI (by simp [rkm, fAsk, c_9, c_24, nI_clamp (show d9 < 2 ^ 31 by omega)]))
      · have c_24 := (bI_ne0.mp c_24)
        refine lv_iconst (v := (nI 0)) hx hb dX8_canBe_27 (by decide) ?_
        refine lv_goto (tgt := 32) hx hb dX8_canBe_28 (by decide) ?_
        exact jn32 _ (congrArg nI (by simp [rkm, fAsk, c_9, c_24, nI_clamp (show d9 < 2 ^ 31 by omega)]))
    · have c_9 := (bI_eq0.mp c_9)
      refine lv_iconst (v := (nI 1)) hx hb dX8_canBe_12 (by decide) ?_
      refine lv_goto (tgt := 32) hx hb dX8_canBe_13 (by decide) ?_
      exact jn32 _ (congrArg nI (by simp [rkm, fAsk, c_9]))
set_option maxHeartbeats 4000000 in
set_option maxRecDepth 100000 in
theorem c_X8_meant (l : Launch) (g : va_G) (cy : Nat → ClassId) (ma : Nat → Nat) (sz : Nat) (bd : Nat) (q : Mc) (σ : Nat → Nat) (Hh : Nat → Nat → Nat) (n : Nat) (K : Nat → Nat → Nat) (fl : Nat → Bool) (tx : Nat → Nat) (ln : Nat) (vm : Int32) (hI : mI bd q σ Hh n K fl tx ln) : Met l yX8_meant (Cond.code yX8_meant cX8_meant 2 (some .int) :: wsL_law) ({ frames := 3, cells := 0, slots := 0, locals := 69 } : Room) (va_Pc [.ref (ma 0), .int vm] (pr g cy (mQ cy ma q σ n fl tx ln) sz)) (wr_Q (fun _ : Mc => (some (.int (nI (if fMea vm = 0 then mea σ vm.toNatClampNeg (σ 2) else 0))))) (fun q9 : Mc => q9.2.2.2.2.2.2.2 = rkm 0 1 0 (fMea vm) ∧ mI bd q9 σ Hh n K fl tx ln) (fun q9 : Mc => mQ cy ma q9 σ n fl tx ln) g (va_A (mQ cy ma q σ n fl tx ln) sz)) 0 0 (va_A (mQ cy ma q σ n fl tx ln) sz) := by
  obtain ⟨tr, dy, kp, wy, hp, sp, ou, rf⟩ := q
  obtain ⟨hwf, hn14, hdy, hkp, htx, hln⟩ := hI
  have hdy : ∀ k, k < n → ∀ j, j < 248 → dy (248 * k + j) = Hh k j := hdy
  have hkp : ∀ k, k < 2 → fl k = true → ∀ j, j < 248 → kp (248 * k + j) = K k j := hkp
  refine mt_of (cc := cX8_meant) (maxL := 2) (ret := (some .int)) (by decide +kernel) (Nat.le_of_ble_eq_true rfl) ?_
  intro pX eX s mX below meth cX ls A hx hb hr hml hown hts hlk hin hsz hAe hA hP hD hK hX hl
  subst hsz
  rw [← hAe]
  clear hAe
  have hP : va_P g vwCl [(ma 0, .inr (6, [.int (nI rf), .ref (ma 1), .int (nI ln), .ref (ma 2), .ref (ma 3), .ref (ma 4), .int (nI n), .ref (ma 5), .ref (ma 6), .ref (ma 7), .ref (ma 8), .int (nI sp), .int (nI ou)])), aI cy (ma 1) 120 (mS tx), aI cy (ma 2) 248 (mS σ), aI cy (ma 3) 248 (mS tr), aI cy (ma 4) 3472 (mS dy), aI cy (ma 5) 496 (mS kp), aZ cy (ma 6) 2 (fun j => bI (fl j)), aI cy (ma 7) 144 (mS wy), aI cy (ma 8) 8 (mS hp)] s.heap := hP
  have hD : va_D A [(ma 0, .inr (6, [.int (nI rf), .ref (ma 1), .int (nI ln), .ref (ma 2), .ref (ma 3), .ref (ma 4), .int (nI n), .ref (ma 5), .ref (ma 6), .ref (ma 7), .ref (ma 8), .int (nI sp), .int (nI ou)])), aI cy (ma 1) 120 (mS tx), aI cy (ma 2) 248 (mS σ), aI cy (ma 3) 248 (mS tr), aI cy (ma 4) 3472 (mS dy), aI cy (ma 5) 496 (mS kp), aZ cy (ma 6) 2 (fun j => bI (fl j)), aI cy (ma 7) 144 (mS wy), aI cy (ma 8) 8 (mS hp)] := hD
  have hl : lv_has ls 2 [(0, .ref (ma 0)), (1, .int vm)] := hl
  have hS : va_S A s.heap s.heap [] := va_S.rf
  have hn0 := hwf.n0
  have hn1 := hwf.n1
  have hh2 := hwf.h2
  have hfr : fMea vm = 0 ∨ 0 < rkm 0 1 0 (fMea vm) := by unfold fMea rkm; (repeat' split) <;> omega
  have hfl9 : rkm 0 1 0 (fMea vm) < 10 := by unfold rkm; (repeat' split) <;> omega
  refine lv_aload_n hx hb dX8_meant_0 rfl (lv_at hl 0 rfl) ?_
  refine jn_i (pcj := 18) (ls := ls) (st := [.ref (ma 0)]) (fun v9 => v9 = (nI (rkm 0 1 0 (fMea vm)))) ?_ (fun jn18 => ?_)
  · intro v9 hv9
    subst hv9
    refine wr_call (wc := [(ma 0, .inr (6, [.int (nI rf), .ref (ma 1), .int (nI ln), .ref (ma 2), .ref (ma 3), .ref (ma 4), .int (nI n), .ref (ma 5), .ref (ma 6), .ref (ma 7), .ref (ma 8), .int (nI sp), .int (nI ou)]))]) (va_runV (As := [.int (nI (rkm 0 1 0 (fMea vm)))]) (rest := []) ⟨hx, hb, hml, hown, hts⟩ (c_X8_refused l g cy (ma 0) (ma 1) (ma 2) (ma 3) (ma 4) (ma 5) (ma 6) (ma 7) (ma 8) s.heap.size rf ln n sp ou (rkm 0 1 0 (fMea vm)) (by omega)) ⟨(cB 1 hts wd7_21 wd1_5 wd7_18 rfl rfl (by decide +kernel) ⟨Nat.le_of_ble_eq_true rfl, Nat.le_of_ble_eq_true rfl⟩), hts _ wd7_19, hts _ wd7_20⟩ (pv hK hP hD hS hA hX [0] rfl rfl 6 0 rfl rfl) rfl rfl hl.1 rfl (lv_room (Nat.le_of_ble_eq_true rfl)) dX8_meant_18 ⟨Nat.zero_le _, Nat.zero_le _⟩) hP hD hS hA [0] rfl rfl (fun _ => (rfl : ([ma 0] : List Nat) = [ma 0])) ?_
    rintro _u9 H locs - hP hD hS
    have hP : va_P g vwCl [(ma 0, .inr (6, [.int (nI (rkm 0 1 0 (fMea vm))), .ref (ma 1), .int (nI ln), .ref (ma 2), .ref (ma 3), .ref (ma 4), .int (nI n), .ref (ma 5), .ref (ma 6), .ref (ma 7), .ref (ma 8), .int (nI sp), .int (nI ou)])), aI cy (ma 1) 120 (mS tx), aI cy (ma 2) 248 (mS σ), aI cy (ma 3) 248 (mS tr), aI cy (ma 4) 3472 (mS dy), aI cy (ma 5) 496 (mS kp), aZ cy (ma 6) 2 (fun j => bI (fl j)), aI cy (ma 7) 144 (mS wy), aI cy (ma 8) 8 (mS hp)] H := hP
    have hD : va_D A [(ma 0, .inr (6, [.int (nI (rkm 0 1 0 (fMea vm))), .ref (ma 1), .int (nI ln), .ref (ma 2), .ref (ma 3), .ref (ma 4), .int (nI n), .ref (ma 5), .ref (ma 6), .ref (ma 7), .ref (ma 8), .int (nI sp), .int (nI ou)])), aI cy (ma 1) 120 (mS tx), aI cy (ma 2) 248 (mS σ), aI cy (ma 3) 248 (mS tr), aI cy (ma 4) 3472 (mS dy), aI cy (ma 5) 496 (mS kp), aZ cy (ma 6) 2 (fun j => bI (fl j)), aI cy (ma 7) 144 (mS wy), aI cy (ma 8) 8 (mS hp)] := hD
    show W _ _ _ _ _ _ _ _ _ _ _ _ _ _ _ (F0 mX 21 ls [.int (bI (decide (0 < (rkm 0 1 0 (fMea vm)))))])
    refine lv_if_eq (tgt := 26) hx hb dX8_meant_21 (by decide) (fun c_21 => ?_) (fun c_21 => ?_)
    · have c_21 := (bI_eq0.mp c_21)
      have c_21 : fMea vm = 0 := hfr.resolve_right (of_decide_eq_false c_21)
      obtain ⟨m9, hm9, rfl⟩ := fMea_0 c_21
      refine lv_aload_n hx hb dX8_meant_26 rfl (lv_at hl 0 rfl) ?_
      refine va_get (D := g) (ci := 6) (v := .ref (ma 2)) (C := RX8) (T := TX8) (N := 13) hx hb hts bgX8 hown hK hP 0 rfl rfl 3 (by decide) (hts _ wd5_21) (fun _ h9 => h9) rfl dX8_meant_27 ?_
      refine lv_iload_n hx hb dX8_meant_30 rfl (lv_at hl 1 rfl) ?_
      refine lv_aload_n hx hb dX8_meant_31 rfl (lv_at hl 0 rfl) ?_
      refine va_get (D := g) (ci := 6) (v := .ref (ma 2)) (C := RX8) (T := TX8) (N := 13) hx hb hts bgX8 hown hK hP 0 rfl rfl 3 (by decide) (hts _ wd5_21) (fun _ h9 => h9) rfl dX8_meant_32 ?_
      refine lv_iconst (v := (nI 2)) hx hb dX8_meant_35 (by decide) ?_
      refine va_iald hx hb hK hP 2 0 rfl rfl (vp_in_nI (n := 2) (by omega) (by omega)) dX8_meant_36 ?_
      refine ti (show (mS σ) (nI 2).toNatClampNeg = nI (σ 2) from by rw [nI_clamp (by omega)]; rfl) ?_
      refine rd_call (va_runS (As := [.ref (ma 2), .int (nI m9), .int (nI (σ 2))]) (rest := []) ⟨hx, hb, hml, hown, hts⟩ (c_X8_means l g cy (ma 2) H.size σ bd m9 (σ 2) hwf (by omega) (by omega)) ⟨(cB 3 hts wd12_17 wd1_5 wd12_15 rfl rfl (by decide +kernel) ⟨Nat.le_of_ble_eq_true rfl, Nat.le_of_ble_eq_true rfl⟩), hts _ wd12_16⟩ (ps hK hP hD hS hA hX [2] rfl rfl) rfl rfl hl.1 rfl (lv_room (Nat.le_of_ble_eq_true rfl)) dX8_meant_37 ⟨Nat.zero_le _, Nat.zero_le _⟩) ?_
      show W _ _ _ _ _ _ _ _ _ _ _ _ _ _ _ (F0 mX 40 ls [.int (nI (mea σ m9 (σ 2)))])
      exact wr_i (tr, dy, kp, wy, hp, sp, ou, rkm 0 1 0 (fMea (nI m9))) (by rw [if_pos c_21, nI_clamp (by omega)]) ⟨rfl, ⟨hwf, hn14, hdy, hkp, htx, hln⟩⟩ hP hS hx hb hr dX8_meant_40 hlk
    · have c_21 := (bI_ne0.mp c_21)
      have c_21 : ¬ fMea vm = 0 := fun e => by rw [e] at c_21; exact absurd c_21 (by decide)
      refine lv_iconst (v := (nI 0)) hx hb dX8_meant_24 (by decide) ?_
      exact wr_i (tr, dy, kp, wy, hp, sp, ou, rkm 0 1 0 (fMea vm)) (by rw [if_neg c_21]) ⟨rfl, (by skip; exact ⟨hwf, hn14, hdy, hkp, htx, hln⟩)⟩ (by skip; exact hP) hS hx hb hr dX8_meant_25 hlk
  · skip
    refine lv_iload_n hx hb dX8_meant_1 rfl (lv_at hl 1 rfl) ?_
    refine lv_i2l (v := vm.toInt64) hx hb dX8_meant_2 rfl ?_
    refine lv_lconst (v := 0) hx hb dX8_meant_3 rfl ?_
    refine lv_ldc2 hx hb hown (hts _ wd7_13) dX8_meant_4 ?_
    refine rd_call (va_runS (As := [.long vm.toInt64, .long (0 : Int64), .long (255 : Int64)]) (rest := [.ref (ma 0)]) ⟨hx, hb, hml, hown, hts⟩ (c_X8_in l vm.toInt64 (0 : Int64) (255 : Int64) ) ⟨(cB 3 hts wd7_17 wd1_5 wd7_15 rfl rfl (by decide +kernel) ⟨Nat.le_of_ble_eq_true rfl, Nat.le_of_ble_eq_true rfl⟩), hts _ wd7_16⟩ p0 rfl rfl hl.1 rfl (lv_room (Nat.le_of_ble_eq_true rfl)) dX8_meant_7 ⟨Nat.zero_le _, Nat.zero_le _⟩) ?_
    show W _ _ _ _ _ _ _ _ _ _ _ _ _ _ _ (F0 mX 10 ls [.int (bI (inL vm.toInt64 (0 : Int64) (255 : Int64))), .ref (ma 0)])
    refine ti (show (bI (inL vm.toInt64 (0 : Int64) (255 : Int64))) = (bI (inR vm (nI 0) (nI 255))) from (congrArg bI (inL_c (a := 0) (b := 255) (by decide) (by decide)))) ?_
    refine lv_if_eq (tgt := 17) hx hb dX8_meant_10 (by decide) (fun c_10 => ?_) (fun c_10 => ?_)
    · have c_10 := (bI_eq0.mp c_10)
      refine lv_iconst (v := (nI 1)) hx hb dX8_meant_17 (by decide) ?_
      exact jn18 _ (congrArg nI (by simp [rkm, fMea, c_10]))
    · have c_10 := (bI_ne0.mp c_10)
      refine lv_iconst (v := (nI 0)) hx hb dX8_meant_13 (by decide) ?_
      refine lv_goto (tgt := 18) hx hb dX8_meant_14 (by decide) ?_
      exact jn18 _ (congrArg nI (by simp [rkm, fMea, c_10]))
