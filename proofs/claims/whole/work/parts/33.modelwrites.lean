set_option maxHeartbeats 4000000 in
set_option maxRecDepth 100000 in
theorem c_X8_copyState (l : Launch) (g : va_G) (cy : Nat → ClassId) (h h2 : Nat) (sz : Nat) (nf : Nat) (nt : Nat) (f9 : Nat → Nat) (t9 : Nat → Nat) (fa : Nat) (ta : Nat) (hf9 : fa + 248 ≤ nf) (ht9 : ta + 248 ≤ nt) (hf8 : nf ≤ 10000) (ht8 : nt ≤ 10000) : Met l yX8_copyState (Cond.code yX8_copyState cX8_copyState 5 none :: wsL_law) ({ frames := 0, cells := 0, slots := 0, locals := 0 } : Room) (va_Pc [.ref h, .int (nI fa), .ref h2, .int (nI ta)] (pr g cy [aI cy h nf (mS f9), aI cy h2 nt (mS t9)] sz)) (wr_Q (fun _ : Unit => none) (fun _ : Unit => True) (fun _ : Unit => [aI cy h nf (mS f9), aI cy h2 nt (mS (cpS f9 t9 fa ta 248))]) g (va_A [aI cy h nf (mS f9), aI cy h2 nt (mS t9)] sz)) 0 0 (va_A [aI cy h nf (mS f9), aI cy h2 nt (mS t9)] sz) := by
  refine mt_of (cc := cX8_copyState) (maxL := 5) (ret := none) (by decide +kernel) (Nat.le_of_ble_eq_true rfl) ?_
  intro pX eX s mX below meth cX ls A hx hb hr hml hown hts hlk hin hsz hAe hA hP hD hK hX hl
  subst hsz
  rw [← hAe]
  clear hAe
  have hl : lv_has ls 5 [(0, .ref h), (1, .int (nI fa)), (2, .ref h2), (3, .int (nI ta))] := hl
  have hS : va_S A s.heap s.heap [] := va_S.rf
  refine lv_iconst (v := (nI 0)) hx hb dX8_copyState_0 (by decide) ?_
  refine lv_istore (lv' := [(4, .int (nI 0)), (0, .ref h), (1, .int (nI fa)), (2, .ref h2), (3, .int (nI ta))]) hx hb dX8_copyState_1 hl (by decide) rfl (fun ls hl => ?_)
  rw [show (mS t9) = (mS (cpS f9 t9 fa ta 0)) from (congrArg mS cpS_0.symm)] at hP hD
  refine lp_rule (σ := (Nat)) (fun x9 H9 locs9 ls9 => va_P g vwCl [aI cy h nf (mS f9), aI cy h2 nt (mS (cpS f9 t9 fa ta x9))] H9 ∧ va_D A [aI cy h nf (mS f9), aI cy h2 nt (mS (cpS f9 t9 fa ta x9))] ∧ va_S A s.heap H9 locs9 ∧ lv_has ls9 5 [(0, .ref h), (1, .int (nI fa)), (2, .ref h2), (3, .int (nI ta)), (4, .int (nI x9))] ∧ (x9 ≤ 248)) (fun x9 => 248 - x9) (0) ⟨hP, hD, hS, lv_sub hl [1, 2, 3, 4, 0] rfl, (by omega)⟩ ?_
  rintro i H locs ls ⟨hP, hD, hS, hl, hi⟩ ih3
  try dsimp only at hl hi hP hD ih3
  refine lv_iload hx hb dX8_copyState_3 (lv_at hl 4 rfl) ?_
  refine lv_sipush (v := (nI 248)) hx hb dX8_copyState_5 (by decide) ?_
  refine lv_icmp_ge (tgt := 29) hx hb dX8_copyState_8 (by decide) (fun c_8 => ?_) (fun c_8 => ?_)
  · have c_8 := (nc_le (by omega) (by omega) c_8)
    have e9 : i = 248 := by omega
    subst e9
    exact wr_v () rfl trivial hP hS hx hb hr dX8_copyState_29 hlk
  · have c_8 := (nc_nle (by omega) (by omega) c_8)
    refine lv_aload_n hx hb dX8_copyState_11 rfl (lv_at hl 2 rfl) ?_
    refine lv_iload_n hx hb dX8_copyState_12 rfl (lv_at hl 3 rfl) ?_
    refine lv_iload hx hb dX8_copyState_13 (lv_at hl 4 rfl) ?_
    refine lv_iadd hx hb dX8_copyState_15 ?_
    refine ti (nI_add ta i) ?_
    refine lv_aload_n hx hb dX8_copyState_16 rfl (lv_at hl 0 rfl) ?_
    refine lv_iload_n hx hb dX8_copyState_17 rfl (lv_at hl 1 rfl) ?_
    refine lv_iload hx hb dX8_copyState_18 (lv_at hl 4 rfl) ?_
    refine lv_iadd hx hb dX8_copyState_20 ?_
    refine ti (nI_add fa i) ?_
    refine va_iald hx hb hK hP 0 0 rfl rfl (vp_in_nI (n := (fa + i)) (by omega) (by omega)) dX8_copyState_21 ?_
    refine ti (show (mS f9) (nI (fa + i)).toNatClampNeg = nI (f9 (fa + i)) from by rw [nI_clamp (by omega)]; rfl) ?_
    refine va_iast hx hb hK hP hD hS 1 0 rfl rfl (vp_in_nI (n := (ta + i)) (by omega) (by omega)) dX8_copyState_22 (fun H locs hP hD hS => ?_)
    rw [nI_clamp (n := (ta + i)) (by omega)] at hP hD
    rw [mS_up] at hP hD
    have hP : va_P g vwCl [aI cy h nf (mS f9), aI cy h2 nt (mS (up (cpS f9 t9 fa ta i) (ta + i) (f9 (fa + i))))] H := hP
    have hD : va_D A [aI cy h nf (mS f9), aI cy h2 nt (mS (up (cpS f9 t9 fa ta i) (ta + i) (f9 (fa + i))))] := hD
    rw [show mS (up (cpS f9 t9 fa ta i) (ta + i) (f9 (fa + i))) = (mS (cpS f9 t9 fa ta (i + 1))) from (congrArg mS cpS_s)] at hP hD
    refine lv_iinc (v := (nI (i + 1))) (lv' := [(4, .int (nI (i + 1))), (0, .ref h), (1, .int (nI fa)), (2, .ref h2), (3, .int (nI ta))]) hx hb dX8_copyState_23 hl (k := 4) rfl (nI_add i 1) (by decide) rfl (fun ls hl => ?_)
    refine lv_goto (tgt := 3) hx hb dX8_copyState_26 (by decide) ?_
    exact ih3 (i + 1) H locs ls ⟨hP, hD, hS, lv_sub hl [1, 2, 3, 4, 0] rfl, (by omega)⟩ (by first | omega | (dsimp only; omega))
set_option maxHeartbeats 4000000 in
set_option maxRecDepth 100000 in
theorem c_X8_clear (l : Launch) (g : va_G) (cy : Nat → ClassId) (sa : Nat) (sz : Nat) (w9 : Nat → Nat) : Met l yX8_clear (Cond.code yX8_clear cX8_clear 2 none :: wsL_law) ({ frames := 0, cells := 0, slots := 0, locals := 0 } : Room) (va_Pc [.ref sa] (pr g cy [aI cy sa 248 (mS w9)] sz)) (wr_Q (fun _ : Unit => none) (fun _ : Unit => True) (fun _ : Unit => [aI cy sa 248 (mS newS)]) g (va_A [aI cy sa 248 (mS w9)] sz)) 0 0 (va_A [aI cy sa 248 (mS w9)] sz) := by
  refine mt_of (cc := cX8_clear) (maxL := 2) (ret := none) (by decide +kernel) (Nat.le_of_ble_eq_true rfl) ?_
  intro pX eX s mX below meth cX ls A hx hb hr hml hown hts hlk hin hsz hAe hA hP hD hK hX hl
  subst hsz
  rw [← hAe]
  clear hAe
  have hl : lv_has ls 2 [(0, .ref sa)] := hl
  have hS : va_S A s.heap s.heap [] := va_S.rf
  refine lv_iconst (v := (nI 0)) hx hb dX8_clear_0 (by decide) ?_
  refine lv_istore_n (lv' := [(1, .int (nI 0)), (0, .ref sa)]) hx hb dX8_clear_1 rfl hl (by decide) rfl (fun ls hl => ?_)
  rw [show (mS w9) = (mS (clI w9 0)) from (congrArg mS clI_0.symm)] at hP hD
  refine lp_rule (σ := (Nat)) (fun x9 H9 locs9 ls9 => va_P g vwCl [aI cy sa 248 (mS (clI w9 x9))] H9 ∧ va_D A [aI cy sa 248 (mS (clI w9 x9))] ∧ va_S A s.heap H9 locs9 ∧ lv_has ls9 2 [(0, .ref sa), (1, .int (nI x9))] ∧ (x9 ≤ 248)) (fun x9 => 248 - x9) (0) ⟨hP, hD, hS, lv_sub hl [1, 0] rfl, (by omega)⟩ ?_
  rintro i H locs ls ⟨hP, hD, hS, hl, hi⟩ ih2
  try dsimp only at hl hi hP hD ih2
  refine lv_iload_n hx hb dX8_clear_2 rfl (lv_at hl 1 rfl) ?_
  refine lv_sipush (v := (nI 248)) hx hb dX8_clear_3 (by decide) ?_
  refine lv_icmp_ge (tgt := 19) hx hb dX8_clear_6 (by decide) (fun c_6 => ?_) (fun c_6 => ?_)
  · have c_6 := (nc_le (by omega) (by omega) c_6)
    have e9 : i = 248 := by omega
    subst e9
    refine lv_aload_n hx hb dX8_clear_19 rfl (lv_at hl 0 rfl) ?_
    refine lv_bipush (v := (nI 6)) hx hb dX8_clear_20 (by decide) ?_
    refine lv_iconst (v := (nI 5)) hx hb dX8_clear_22 (by decide) ?_
    refine va_iast hx hb hK hP hD hS 0 0 rfl rfl (vp_in_nI (n := 6) (by omega) (by omega)) dX8_clear_23 (fun H locs hP hD hS => ?_)
    rw [nI_clamp (n := 6) (by omega)] at hP hD
    rw [mS_up] at hP hD
    have hP : va_P g vwCl [aI cy sa 248 (mS (up (clI w9 248) 6 5))] H := hP
    have hD : va_D A [aI cy sa 248 (mS (up (clI w9 248) 6 5))] := hD
    refine lv_aload_n hx hb dX8_clear_24 rfl (lv_at hl 0 rfl) ?_
    refine lv_bipush (v := (nI 7)) hx hb dX8_clear_25 (by decide) ?_
    refine lv_iconst (v := (nI 2)) hx hb dX8_clear_27 (by decide) ?_
    refine va_iast hx hb hK hP hD hS 0 0 rfl rfl (vp_in_nI (n := 7) (by omega) (by omega)) dX8_clear_28 (fun H locs hP hD hS => ?_)
    rw [nI_clamp (n := 7) (by omega)] at hP hD
    rw [mS_up] at hP hD
    have hP : va_P g vwCl [aI cy sa 248 (mS (up (up (clI w9 248) 6 5) 7 2))] H := hP
    have hD : va_D A [aI cy sa 248 (mS (up (up (clI w9 248) 6 5) 7 2))] := hD
    obtain ⟨hP, hD⟩ := arr_c (mS newS) hP hD 0 rfl (fun j hj => clI_new hj)
    have hP : va_P g vwCl [aI cy sa 248 (mS newS)] H := hP
    have hD : va_D A [aI cy sa 248 (mS newS)] := hD
    exact wr_v () rfl trivial hP hS hx hb hr dX8_clear_29 hlk
  · have c_6 := (nc_nle (by omega) (by omega) c_6)
    refine lv_aload_n hx hb dX8_clear_9 rfl (lv_at hl 0 rfl) ?_
    refine lv_iload_n hx hb dX8_clear_10 rfl (lv_at hl 1 rfl) ?_
    refine lv_iconst (v := (nI 0)) hx hb dX8_clear_11 (by decide) ?_
    refine va_iast hx hb hK hP hD hS 0 0 rfl rfl (vp_in_nI (n := i) (by omega) (by omega)) dX8_clear_12 (fun H locs hP hD hS => ?_)
    rw [nI_clamp (n := i) (by omega)] at hP hD
    rw [mS_up] at hP hD
    have hP : va_P g vwCl [aI cy sa 248 (mS (up (clI w9 i) i 0))] H := hP
    have hD : va_D A [aI cy sa 248 (mS (up (clI w9 i) i 0))] := hD
    rw [show mS (up (clI w9 i) i 0) = (mS (clI w9 (i + 1))) from (congrArg mS clI_s)] at hP hD
    refine lv_iinc (v := (nI (i + 1))) (lv' := [(1, .int (nI (i + 1))), (0, .ref sa)]) hx hb dX8_clear_13 hl (k := 1) rfl (nI_add i 1) (by decide) rfl (fun ls hl => ?_)
    refine lv_goto (tgt := 2) hx hb dX8_clear_16 (by decide) ?_
    exact ih2 (i + 1) H locs ls ⟨hP, hD, hS, lv_sub hl [1, 0] rfl, (by omega)⟩ (by first | omega | (dsimp only; omega))
set_option maxHeartbeats 4000000 in
set_option maxRecDepth 100000 in
theorem c_X8_measure (l : Launch) (g : va_G) (cy : Nat → ClassId) (mo a1 a2 a3 a4 a5 a6 mw mh sa : Nat) (sz : Nat) (rf : Nat) (z : Nat) (ac : Nat) (sp : Nat) (ou : Nat) (wy : Nat → Nat) (σ : Nat → Nat) (bd : Nat) (hwf : WF bd σ) : Met l yX8_measure (Cond.code yX8_measure cX8_measure 5 none :: wsL_law) ({ frames := 1, cells := 0, slots := 0, locals := 23 } : Room) (va_Pc [.ref mo, .ref sa] (pr g cy [(mo, .inr (6, [.int (nI rf), .ref a1, .int (nI z), .ref a2, .ref a3, .ref a4, .int (nI ac), .ref a5, .ref a6, .ref mw, .ref mh, .int (nI sp), .int (nI ou)])), aI cy mw 144 (mS wy), aI cy sa 248 (mS σ)] sz)) (wr_Q (fun _ : Unit => none) (fun _ : Unit => True) (fun _ : Unit => [(mo, .inr (6, [.int (nI rf), .ref a1, .int (nI z), .ref a2, .ref a3, .ref a4, .int (nI ac), .ref a5, .ref a6, .ref mw, .ref mh, .int (nI sp), .int (nI ou)])), aI cy mw 144 (mS (D σ)), aI cy sa 248 (mS σ)]) g (va_A [(mo, .inr (6, [.int (nI rf), .ref a1, .int (nI z), .ref a2, .ref a3, .ref a4, .int (nI ac), .ref a5, .ref a6, .ref mw, .ref mh, .int (nI sp), .int (nI ou)])), aI cy mw 144 (mS wy), aI cy sa 248 (mS σ)] sz)) 0 0 (va_A [(mo, .inr (6, [.int (nI rf), .ref a1, .int (nI z), .ref a2, .ref a3, .ref a4, .int (nI ac), .ref a5, .ref a6, .ref mw, .ref mh, .int (nI sp), .int (nI ou)])), aI cy mw 144 (mS wy), aI cy sa 248 (mS σ)] sz) := by
  refine mt_of (cc := cX8_measure) (maxL := 5) (ret := none) (by decide +kernel) (Nat.le_of_ble_eq_true rfl) ?_
  intro pX eX s mX below meth cX ls A hx hb hr hml hown hts hlk hin hsz hAe hA hP hD hK hX hl
  subst hsz
  rw [← hAe]
  clear hAe
  have hl : lv_has ls 5 [(0, .ref mo), (1, .ref sa)] := hl
  have hS : va_S A s.heap s.heap [] := va_S.rf
  refine lv_iconst (v := (nI 0)) hx hb dX8_measure_0 (by decide) ?_
  refine lv_istore_n (lv' := [(2, .int (nI 0)), (0, .ref mo), (1, .ref sa)]) hx hb dX8_measure_1 rfl hl (by decide) rfl (fun ls hl => ?_)
  rw [show (mS wy) = (mS (fwB σ wy (12 * 0 + 0))) from (congrArg mS fwB_0.symm)] at hP hD
  refine lp_rule (σ := (Nat)) (fun x9 H9 locs9 ls9 => va_P g vwCl [(mo, .inr (6, [.int (nI rf), .ref a1, .int (nI z), .ref a2, .ref a3, .ref a4, .int (nI ac), .ref a5, .ref a6, .ref mw, .ref mh, .int (nI sp), .int (nI ou)])), aI cy mw 144 (mS (fwB σ wy (12 * x9 + 0))), aI cy sa 248 (mS σ)] H9 ∧ va_D A [(mo, .inr (6, [.int (nI rf), .ref a1, .int (nI z), .ref a2, .ref a3, .ref a4, .int (nI ac), .ref a5, .ref a6, .ref mw, .ref mh, .int (nI sp), .int (nI ou)])), aI cy mw 144 (mS (fwB σ wy (12 * x9 + 0))), aI cy sa 248 (mS σ)] ∧ va_S A s.heap H9 locs9 ∧ lv_has ls9 5 [(0, .ref mo), (1, .ref sa), (2, .int (nI x9))] ∧ (x9 ≤ 12)) (fun x9 => 12 - x9) (0) ⟨hP, hD, hS, lv_sub hl [1, 2, 0] rfl, (by omega)⟩ ?_
  rintro a H locs ls ⟨hP, hD, hS, hl, ha⟩ ih2
  try dsimp only at hl ha hP hD ih2
  refine lv_iload_n hx hb dX8_measure_2 rfl (lv_at hl 2 rfl) ?_
  refine lv_bipush (v := (nI 12)) hx hb dX8_measure_3 (by decide) ?_
  refine lv_icmp_ge (tgt := 74) hx hb dX8_measure_5 (by decide) (fun c_5 => ?_) (fun c_5 => ?_)
  · have c_5 := (nc_le (by omega) (by omega) c_5)
    obtain ⟨hP, hD⟩ := arr_c (mS (fwV σ 0 0)) hP hD 1 rfl (fun j hj => congrArg nI (if_pos (show j < 12 * a + 0 by omega)))
    have hP : va_P g vwCl [(mo, .inr (6, [.int (nI rf), .ref a1, .int (nI z), .ref a2, .ref a3, .ref a4, .int (nI ac), .ref a5, .ref a6, .ref mw, .ref mh, .int (nI sp), .int (nI ou)])), aI cy mw 144 (mS (fwV σ 0 0)), aI cy sa 248 (mS σ)] H := hP
    have hD : va_D A [(mo, .inr (6, [.int (nI rf), .ref a1, .int (nI z), .ref a2, .ref a3, .ref a4, .int (nI ac), .ref a5, .ref a6, .ref mw, .ref mh, .int (nI sp), .int (nI ou)])), aI cy mw 144 (mS (fwV σ 0 0)), aI cy sa 248 (mS σ)] := hD
    refine lv_iconst (v := (nI 0)) hx hb dX8_measure_74 (by decide) ?_
    refine lv_istore_n (lv' := [(2, .int (nI 0)), (0, .ref mo), (1, .ref sa)]) hx hb dX8_measure_75 rfl hl (by decide) rfl (fun ls hl => ?_)
    refine lp_rule (σ := (Nat)) (fun x9 H9 locs9 ls9 => va_P g vwCl [(mo, .inr (6, [.int (nI rf), .ref a1, .int (nI z), .ref a2, .ref a3, .ref a4, .int (nI ac), .ref a5, .ref a6, .ref mw, .ref mh, .int (nI sp), .int (nI ou)])), aI cy mw 144 (mS (fwV σ x9 0)), aI cy sa 248 (mS σ)] H9 ∧ va_D A [(mo, .inr (6, [.int (nI rf), .ref a1, .int (nI z), .ref a2, .ref a3, .ref a4, .int (nI ac), .ref a5, .ref a6, .ref mw, .ref mh, .int (nI sp), .int (nI ou)])), aI cy mw 144 (mS (fwV σ x9 0)), aI cy sa 248 (mS σ)] ∧ va_S A s.heap H9 locs9 ∧ lv_has ls9 5 [(0, .ref mo), (1, .ref sa), (2, .int (nI x9))] ∧ (x9 ≤ 12) ∧ (∀ j, j < 144 → fwV σ x9 0 j ≤ 99)) (fun x9 => 12 - x9) (0) ⟨hP, hD, hS, lv_sub hl [1, 2, 0] rfl, (by omega), fwV_le0⟩ ?_
    rintro m9 H locs ls ⟨hP, hD, hS, hl, hm9, hl0⟩ ih76
    try dsimp only at hl hm9 hl0 hP hD ih76
    refine lv_iload_n hx hb dX8_measure_76 rfl (lv_at hl 2 rfl) ?_
    refine lv_bipush (v := (nI 12)) hx hb dX8_measure_77 (by decide) ?_
    refine lv_icmp_ge (tgt := 162) hx hb dX8_measure_79 (by decide) (fun c_79 => ?_) (fun c_79 => ?_)
    · have c_79 := (nc_le (by omega) (by omega) c_79)
      rw [show (mS (fwV σ m9 0)) = (mS (D σ)) from (by rw [show m9 = 12 by omega]; rfl)] at hP hD
      exact wr_v () rfl trivial hP hS hx hb hr dX8_measure_162 hlk
    · have c_79 := (nc_nle (by omega) (by omega) c_79)
      refine lv_iconst (v := (nI 0)) hx hb dX8_measure_82 (by decide) ?_
      refine lv_istore_n (lv' := [(3, .int (nI 0)), (0, .ref mo), (1, .ref sa), (2, .int (nI m9))]) hx hb dX8_measure_83 rfl hl (by decide) rfl (fun ls hl => ?_)
      refine lp_rule (σ := (Nat)) (fun x9 H9 locs9 ls9 => va_P g vwCl [(mo, .inr (6, [.int (nI rf), .ref a1, .int (nI z), .ref a2, .ref a3, .ref a4, .int (nI ac), .ref a5, .ref a6, .ref mw, .ref mh, .int (nI sp), .int (nI ou)])), aI cy mw 144 (mS (fwV σ m9 x9)), aI cy sa 248 (mS σ)] H9 ∧ va_D A [(mo, .inr (6, [.int (nI rf), .ref a1, .int (nI z), .ref a2, .ref a3, .ref a4, .int (nI ac), .ref a5, .ref a6, .ref mw, .ref mh, .int (nI sp), .int (nI ou)])), aI cy mw 144 (mS (fwV σ m9 x9)), aI cy sa 248 (mS σ)] ∧ va_S A s.heap H9 locs9 ∧ lv_has ls9 5 [(0, .ref mo), (1, .ref sa), (2, .int (nI m9)), (3, .int (nI x9))] ∧ (x9 ≤ 144) ∧ (∀ j, j < 144 → fwV σ m9 x9 j ≤ 99)) (fun x9 => 144 - x9) (0) ⟨hP, hD, hS, lv_sub hl [1, 2, 3, 0] rfl, (by omega), hl0⟩ ?_
      rintro k H locs ls ⟨hP, hD, hS, hl, hk, hle⟩ ih84
      try dsimp only at hl hk hle hP hD ih84
      refine lv_iload_n hx hb dX8_measure_84 rfl (lv_at hl 3 rfl) ?_
      refine lv_sipush (v := (nI 144)) hx hb dX8_measure_85 (by decide) ?_
      refine lv_icmp_ge (tgt := 156) hx hb dX8_measure_88 (by decide) (fun c_88 => ?_) (fun c_88 => ?_)
      · have c_88 := (nc_le (by omega) (by omega) c_88)
        rw [show (mS (fwV σ m9 k)) = (mS (fwV σ (m9 + 1) 0)) from (by rw [show k = 144 by omega, fwV_m])] at hP hD
        refine lv_iinc (v := (nI (m9 + 1))) (lv' := [(2, .int (nI (m9 + 1))), (0, .ref mo), (1, .ref sa), (3, .int (nI k))]) hx hb dX8_measure_156 hl (k := 2) rfl (nI_add m9 1) (by decide) rfl (fun ls hl => ?_)
        refine lv_goto (tgt := 76) hx hb dX8_measure_159 (by decide) ?_
        exact ih76 (m9 + 1) H locs ls ⟨hP, hD, hS, lv_sub hl [1, 2, 0] rfl, (by omega), (fun j hj => by rw [← fwV_m]; have h9 := hle j hj; rw [show k = 144 by omega] at h9; exact h9)⟩ (by first | omega | (dsimp only; omega))
      · have c_88 := (nc_nle (by omega) (by omega) c_88)
        have l1 := hle (12 * (k / 12) + m9) (by omega)
        have l2 := hle (12 * m9 + k % 12) (by omega)
        have l3 := hle k (by omega)
        refine lv_aload_n hx hb dX8_measure_91 rfl (lv_at hl 0 rfl) ?_
        refine va_get (D := g) (ci := 6) (v := .ref mw) (C := RX8) (T := TX8) (N := 13) hx hb hts bgX8 hown hK hP 0 rfl rfl 9 (by decide) (hts _ wd6_2) (fun _ h9 => h9) rfl dX8_measure_92 ?_
        refine lv_bipush (v := (nI 12)) hx hb dX8_measure_95 (by decide) ?_
        refine lv_iload_n hx hb dX8_measure_97 rfl (lv_at hl 3 rfl) ?_
        refine lv_bipush (v := (nI 12)) hx hb dX8_measure_98 (by decide) ?_
        refine lv_idiv hx hb dX8_measure_100 (nI_ne0 (by omega) (by omega)) ?_
        refine ti (pk_div (a := k) (d := 12) (by omega) (by omega) (by omega)) ?_
        refine lv_imul hx hb dX8_measure_101 ?_
        refine ti (pk_mul 12 (k / 12)) ?_
        refine lv_iload_n hx hb dX8_measure_102 rfl (lv_at hl 2 rfl) ?_
        refine lv_iadd hx hb dX8_measure_103 ?_
        refine ti (nI_add (12 * (k / 12)) m9) ?_
        refine va_iald hx hb hK hP 1 0 rfl rfl (vp_in_nI (n := ((12 * (k / 12)) + m9)) (by omega) (by omega)) dX8_measure_104 ?_
        refine ti (show (mS (fwV σ m9 k)) (nI ((12 * (k / 12)) + m9)).toNatClampNeg = nI ((fwV σ m9 k) ((12 * (k / 12)) + m9)) from by rw [nI_clamp (by omega)]; rfl) ?_
        refine lv_aload_n hx hb dX8_measure_105 rfl (lv_at hl 0 rfl) ?_
        refine va_get (D := g) (ci := 6) (v := .ref mw) (C := RX8) (T := TX8) (N := 13) hx hb hts bgX8 hown hK hP 0 rfl rfl 9 (by decide) (hts _ wd6_2) (fun _ h9 => h9) rfl dX8_measure_106 ?_
        refine lv_bipush (v := (nI 12)) hx hb dX8_measure_109 (by decide) ?_
        refine lv_iload_n hx hb dX8_measure_111 rfl (lv_at hl 2 rfl) ?_
        refine lv_imul hx hb dX8_measure_112 ?_
        refine ti (pk_mul 12 m9) ?_
        refine lv_iload_n hx hb dX8_measure_113 rfl (lv_at hl 3 rfl) ?_
        refine lv_bipush (v := (nI 12)) hx hb dX8_measure_114 (by decide) ?_
        refine lv_irem hx hb dX8_measure_116 (nI_ne0 (by omega) (by omega)) ?_
        refine ti (pk_rem (a := k) (d := 12) (by omega) (by omega) (by omega)) ?_
        refine lv_iadd hx hb dX8_measure_117 ?_
        refine ti (nI_add (12 * m9) (k % 12)) ?_
        refine va_iald hx hb hK hP 1 0 rfl rfl (vp_in_nI (n := ((12 * m9) + (k % 12))) (by omega) (by omega)) dX8_measure_118 ?_
        refine ti (show (mS (fwV σ m9 k)) (nI ((12 * m9) + (k % 12))).toNatClampNeg = nI ((fwV σ m9 k) ((12 * m9) + (k % 12))) from by rw [nI_clamp (by omega)]; rfl) ?_
        refine lv_iadd hx hb dX8_measure_119 ?_
        refine ti (nI_add ((fwV σ m9 k) ((12 * (k / 12)) + m9)) ((fwV σ m9 k) ((12 * m9) + (k % 12)))) ?_
        refine lv_istore (lv' := [(4, .int (nI (((fwV σ m9 k) ((12 * (k / 12)) + m9)) + ((fwV σ m9 k) ((12 * m9) + (k % 12)))))), (0, .ref mo), (1, .ref sa), (2, .int (nI m9)), (3, .int (nI k))]) hx hb dX8_measure_120 hl (by decide) rfl (fun ls hl => ?_)
        refine lv_aload_n hx hb dX8_measure_122 rfl (lv_at hl 1 rfl) ?_
        refine va_get (D := g) (ci := 6) (v := .ref mw) (C := RX8) (T := TX8) (N := 13) hx hb hts bgX8 hown hK hP 0 rfl rfl 9 (by decide) (hts _ wd6_2) (fun _ h9 => h9) rfl dX8_measure_123 ?_
        refine lv_iload_n hx hb dX8_measure_126 rfl (lv_at hl 4 rfl) ?_
        refine lv_iload hx hb dX8_measure_127 (lv_at hl 0 rfl) ?_
        refine lv_aload_n hx hb dX8_measure_129 rfl (lv_at hl 1 rfl) ?_
        refine va_get (D := g) (ci := 6) (v := .ref mw) (C := RX8) (T := TX8) (N := 13) hx hb hts bgX8 hown hK hP 0 rfl rfl 9 (by decide) (hts _ wd6_2) (fun _ h9 => h9) rfl dX8_measure_130 ?_
        refine lv_iload_n hx hb dX8_measure_133 rfl (lv_at hl 4 rfl) ?_
        refine va_iald hx hb hK hP 1 0 rfl rfl (vp_in_nI (n := k) (by omega) (by omega)) dX8_measure_134 ?_
        refine ti (show (mS (fwV σ m9 k)) (nI k).toNatClampNeg = nI ((fwV σ m9 k) k) from by rw [nI_clamp (by omega)]; rfl) ?_
        refine lv_icmp_ge (tgt := 143) hx hb dX8_measure_135 (by decide) (fun c_135 => ?_) (fun c_135 => ?_)
        · have c_135 := (nc_le (by omega) (by omega) c_135)
          refine lv_aload_n hx hb dX8_measure_143 rfl (lv_at hl 1 rfl) ?_
          refine va_get (D := g) (ci := 6) (v := .ref mw) (C := RX8) (T := TX8) (N := 13) hx hb hts bgX8 hown hK hP 0 rfl rfl 9 (by decide) (hts _ wd6_2) (fun _ h9 => h9) rfl dX8_measure_144 ?_
          refine lv_iload_n hx hb dX8_measure_147 rfl (lv_at hl 4 rfl) ?_
          refine va_iald hx hb hK hP 1 0 rfl rfl (vp_in_nI (n := k) (by omega) (by omega)) dX8_measure_148 ?_
          refine ti (show (mS (fwV σ m9 k)) (nI k).toNatClampNeg = nI ((fwV σ m9 k) k) from by rw [nI_clamp (by omega)]; rfl) ?_
          refine va_iast hx hb hK hP hD hS 1 0 rfl rfl (vp_in_nI (n := k) (by omega) (by omega)) dX8_measure_149 (fun H locs hP hD hS => ?_)
          rw [nI_clamp (n := k) (by omega)] at hP hD
          rw [mS_up] at hP hD
          have hP : va_P g vwCl [(mo, .inr (6, [.int (nI rf), .ref a1, .int (nI z), .ref a2, .ref a3, .ref a4, .int (nI ac), .ref a5, .ref a6, .ref mw, .ref mh, .int (nI sp), .int (nI ou)])), aI cy mw 144 (mS (up (fwV σ m9 k) k ((fwV σ m9 k) k))), aI cy sa 248 (mS σ)] H := hP
          have hD : va_D A [(mo, .inr (6, [.int (nI rf), .ref a1, .int (nI z), .ref a2, .ref a3, .ref a4, .int (nI ac), .ref a5, .ref a6, .ref mw, .ref mh, .int (nI sp), .int (nI ou)])), aI cy mw 144 (mS (up (fwV σ m9 k) k ((fwV σ m9 k) k))), aI cy sa 248 (mS σ)] := hD
          rw [show mS (up (fwV σ m9 k) k ((fwV σ m9 k) k)) = (mS (fwV σ m9 (k + 1))) from (congrArg mS (fwV_v (if_neg (Nat.not_lt.mpr c_135))))] at hP hD
          refine lv_iinc (v := (nI (k + 1))) (lv' := [(3, .int (nI (k + 1))), (4, .int (nI (((fwV σ m9 k) ((12 * (k / 12)) + m9)) + ((fwV σ m9 k) ((12 * m9) + (k % 12)))))), (0, .ref mo), (1, .ref sa), (2, .int (nI m9))]) hx hb dX8_measure_150 hl (k := 4) rfl (nI_add k 1) (by decide) rfl (fun ls hl => ?_)
          refine lv_goto (tgt := 84) hx hb dX8_measure_153 (by decide) ?_
          exact ih84 (k + 1) H locs ls ⟨hP, hD, hS, lv_sub hl [2, 3, 4, 0] rfl, (by omega), (fun j hj => by rw [fwV_s]; exact fwk_le hle (by omega) j hj)⟩ (by first | omega | (dsimp only; omega))
        · have c_135 := (nc_nle (by omega) (by omega) c_135)
          refine lv_iload hx hb dX8_measure_138 (lv_at hl 0 rfl) ?_
          refine lv_goto (tgt := 149) hx hb dX8_measure_140 (by decide) ?_
          refine va_iast hx hb hK hP hD hS 1 0 rfl rfl (vp_in_nI (n := k) (by omega) (by omega)) dX8_measure_149 (fun H locs hP hD hS => ?_)
          rw [nI_clamp (n := k) (by omega)] at hP hD
          rw [mS_up] at hP hD
          have hP : va_P g vwCl [(mo, .inr (6, [.int (nI rf), .ref a1, .int (nI z), .ref a2, .ref a3, .ref a4, .int (nI ac), .ref a5, .ref a6, .ref mw, .ref mh, .int (nI sp), .int (nI ou)])), aI cy mw 144 (mS (up (fwV σ m9 k) k (((fwV σ m9 k) ((12 * (k / 12)) + m9)) + ((fwV σ m9 k) ((12 * m9) + (k % 12)))))), aI cy sa 248 (mS σ)] H := hP
          have hD : va_D A [(mo, .inr (6, [.int (nI rf), .ref a1, .int (nI z), .ref a2, .ref a3, .ref a4, .int (nI ac), .ref a5, .ref a6, .ref mw, .ref mh, .int (nI sp), .int (nI ou)])), aI cy mw 144 (mS (up (fwV σ m9 k) k (((fwV σ m9 k) ((12 * (k / 12)) + m9)) + ((fwV σ m9 k) ((12 * m9) + (k % 12)))))), aI cy sa 248 (mS σ)] := hD
          rw [show mS (up (fwV σ m9 k) k (((fwV σ m9 k) ((12 * (k / 12)) + m9)) + ((fwV σ m9 k) ((12 * m9) + (k % 12))))) = (mS (fwV σ m9 (k + 1))) from (congrArg mS (fwV_v (if_pos c_135)))] at hP hD
          refine lv_iinc (v := (nI (k + 1))) (lv' := [(3, .int (nI (k + 1))), (4, .int (nI (((fwV σ m9 k) ((12 * (k / 12)) + m9)) + ((fwV σ m9 k) ((12 * m9) + (k % 12)))))), (0, .ref mo), (1, .ref sa), (2, .int (nI m9))]) hx hb dX8_measure_150 hl (k := 4) rfl (nI_add k 1) (by decide) rfl (fun ls hl => ?_)
          refine lv_goto (tgt := 84) hx hb dX8_measure_153 (by decide) ?_
          exact ih84 (k + 1) H locs ls ⟨hP, hD, hS, lv_sub hl [2, 3, 4, 0] rfl, (by omega), (fun j hj => by rw [fwV_s]; exact fwk_le hle (by omega) j hj)⟩ (by first | omega | (dsimp only; omega))
  · have c_5 := (nc_nle (by omega) (by omega) c_5)
    refine lv_iconst (v := (nI 0)) hx hb dX8_measure_8 (by decide) ?_
    refine lv_istore_n (lv' := [(3, .int (nI 0)), (0, .ref mo), (1, .ref sa), (2, .int (nI a))]) hx hb dX8_measure_9 rfl hl (by decide) rfl (fun ls hl => ?_)
    refine lp_rule (σ := (Nat)) (fun x9 H9 locs9 ls9 => va_P g vwCl [(mo, .inr (6, [.int (nI rf), .ref a1, .int (nI z), .ref a2, .ref a3, .ref a4, .int (nI ac), .ref a5, .ref a6, .ref mw, .ref mh, .int (nI sp), .int (nI ou)])), aI cy mw 144 (mS (fwB σ wy (12 * a + x9))), aI cy sa 248 (mS σ)] H9 ∧ va_D A [(mo, .inr (6, [.int (nI rf), .ref a1, .int (nI z), .ref a2, .ref a3, .ref a4, .int (nI ac), .ref a5, .ref a6, .ref mw, .ref mh, .int (nI sp), .int (nI ou)])), aI cy mw 144 (mS (fwB σ wy (12 * a + x9))), aI cy sa 248 (mS σ)] ∧ va_S A s.heap H9 locs9 ∧ lv_has ls9 5 [(0, .ref mo), (1, .ref sa), (2, .int (nI a)), (3, .int (nI x9))] ∧ (x9 ≤ 12)) (fun x9 => 12 - x9) (0) ⟨hP, hD, hS, lv_sub hl [1, 2, 3, 0] rfl, (by omega)⟩ ?_
    rintro b H locs ls ⟨hP, hD, hS, hl, hb9⟩ ih10
    try dsimp only at hl hb9 hP hD ih10
    refine lv_iload_n hx hb dX8_measure_10 rfl (lv_at hl 3 rfl) ?_
    refine lv_bipush (v := (nI 12)) hx hb dX8_measure_11 (by decide) ?_
    refine lv_icmp_ge (tgt := 68) hx hb dX8_measure_13 (by decide) (fun c_13 => ?_) (fun c_13 => ?_)
    · have c_13 := (nc_le (by omega) (by omega) c_13)
      rw [show (mS (fwB σ wy (12 * a + b))) = (mS (fwB σ wy (12 * (a + 1) + 0))) from (by rw [show 12 * (a + 1) + 0 = 12 * a + b by omega])] at hP hD
      refine lv_iinc (v := (nI (a + 1))) (lv' := [(2, .int (nI (a + 1))), (0, .ref mo), (1, .ref sa), (3, .int (nI b))]) hx hb dX8_measure_68 hl (k := 2) rfl (nI_add a 1) (by decide) rfl (fun ls hl => ?_)
      refine lv_goto (tgt := 2) hx hb dX8_measure_71 (by decide) ?_
      exact ih2 (a + 1) H locs ls ⟨hP, hD, hS, lv_sub hl [1, 2, 0] rfl, (by omega)⟩ (by first | omega | (dsimp only; omega))
    · have c_13 := (nc_nle (by omega) (by omega) c_13)
      have hst9 := stp_lt (a := a) (b := b) (by omega) (by omega)
      have hst8 := stp_ok a (by omega) b (by omega)
      refine lv_iload_n hx hb dX8_measure_16 rfl (lv_at hl 2 rfl) ?_
      refine lv_iload_n hx hb dX8_measure_17 rfl (lv_at hl 3 rfl) ?_
      refine rd_call (va_runS (As := [.int (nI a), .int (nI b)]) (rest := []) ⟨hx, hb, hml, hown, hts⟩ (c_X8_street l a b (by omega) (by omega)) ⟨(cB 2 hts wd13_23 wd1_5 wd13_21 rfl rfl (by decide +kernel) ⟨Nat.le_of_ble_eq_true rfl, Nat.le_of_ble_eq_true rfl⟩), hts _ wd13_22⟩ p0 rfl rfl hl.1 rfl (lv_room (Nat.le_of_ble_eq_true rfl)) dX8_measure_18 ⟨Nat.zero_le _, Nat.zero_le _⟩) ?_
      show W _ _ _ _ _ _ _ _ _ _ _ _ _ _ _ (F0 mX 21 ls [.int (nI (stp a b))])
      refine lv_istore (lv' := [(4, .int (nI (stp a b))), (0, .ref mo), (1, .ref sa), (2, .int (nI a)), (3, .int (nI b))]) hx hb dX8_measure_21 hl (by decide) rfl (fun ls hl => ?_)
      refine lv_aload_n hx hb dX8_measure_23 rfl (lv_at hl 1 rfl) ?_
      refine va_get (D := g) (ci := 6) (v := .ref mw) (C := RX8) (T := TX8) (N := 13) hx hb hts bgX8 hown hK hP 0 rfl rfl 9 (by decide) (hts _ wd6_2) (fun _ h9 => h9) rfl dX8_measure_24 ?_
      refine lv_bipush (v := (nI 12)) hx hb dX8_measure_27 (by decide) ?_
      refine lv_iload_n hx hb dX8_measure_29 rfl (lv_at hl 3 rfl) ?_
      refine lv_imul hx hb dX8_measure_30 ?_
      refine ti (pk_mul 12 a) ?_
      refine lv_iload_n hx hb dX8_measure_31 rfl (lv_at hl 4 rfl) ?_
      refine lv_iadd hx hb dX8_measure_32 ?_
      refine ti (nI_add (12 * a) b) ?_
      refine lv_iload_n hx hb dX8_measure_33 rfl (lv_at hl 3 rfl) ?_
      refine lv_iload_n hx hb dX8_measure_34 rfl (lv_at hl 4 rfl) ?_
      refine lv_icmp_ne (tgt := 42) hx hb dX8_measure_35 (by decide) (fun c_35 => ?_) (fun c_35 => ?_)
      · have c_35 := (nc_ne9 (by omega) (by omega) c_35)
        refine lv_iload hx hb dX8_measure_42 (lv_at hl 0 rfl) ?_
        refine lv_iconst (v := (nI NN)) hx hb dX8_measure_44 (by decide) ?_
        refine lv_icmp_eq (tgt := 59) hx hb dX8_measure_45 (by decide) (fun c_45 => ?_) (fun c_45 => ?_)
        · have c_45 := (nc_eq9 (by omega) (by decide) c_45)
          refine lv_bipush (v := (nI 99)) hx hb dX8_measure_59 (by decide) ?_
          refine va_iast hx hb hK hP hD hS 1 0 rfl rfl (vp_in_nI (n := ((12 * a) + b)) (by omega) (by omega)) dX8_measure_61 (fun H locs hP hD hS => ?_)
          rw [nI_clamp (n := ((12 * a) + b)) (by omega)] at hP hD
          rw [mS_up] at hP hD
          have hP : va_P g vwCl [(mo, .inr (6, [.int (nI rf), .ref a1, .int (nI z), .ref a2, .ref a3, .ref a4, .int (nI ac), .ref a5, .ref a6, .ref mw, .ref mh, .int (nI sp), .int (nI ou)])), aI cy mw 144 (mS (up (fwB σ wy (12 * a + b)) ((12 * a) + b) 99)), aI cy sa 248 (mS σ)] H := hP
          have hD : va_D A [(mo, .inr (6, [.int (nI rf), .ref a1, .int (nI z), .ref a2, .ref a3, .ref a4, .int (nI ac), .ref a5, .ref a6, .ref mw, .ref mh, .int (nI sp), .int (nI ou)])), aI cy mw 144 (mS (up (fwB σ wy (12 * a + b)) ((12 * a) + b) 99)), aI cy sa 248 (mS σ)] := hD
          rw [show mS (up (fwB σ wy (12 * a + b)) ((12 * a) + b) 99) = (mS (fwB σ wy (12 * a + b + 1))) from (congrArg mS (fwB_v (fw0_v (by omega) (Or.inr (Or.inr ⟨c_35, Or.inl c_45, rfl⟩)))))] at hP hD
          refine lv_iinc (v := (nI (b + 1))) (lv' := [(3, .int (nI (b + 1))), (4, .int (nI (stp a b))), (0, .ref mo), (1, .ref sa), (2, .int (nI a))]) hx hb dX8_measure_62 hl (k := 4) rfl (nI_add b 1) (by decide) rfl (fun ls hl => ?_)
          refine lv_goto (tgt := 10) hx hb dX8_measure_65 (by decide) ?_
          exact ih10 (b + 1) H locs ls ⟨hP, hD, hS, lv_sub hl [2, 3, 4, 0] rfl, (by omega)⟩ (by first | omega | (dsimp only; omega))
        · have c_45 := (nc_ne9 (by omega) (by decide) c_45)
          have hst7 := hst8.resolve_left c_45
          have hst6 := hwf.st hst7.1 hst7.2
          refine lv_aload_n hx hb dX8_measure_48 rfl (lv_at hl 2 rfl) ?_
          refine lv_iload hx hb dX8_measure_49 (lv_at hl 0 rfl) ?_
          refine va_iald hx hb hK hP 2 0 rfl rfl (vp_in_nI (n := (stp a b)) (by omega) (by omega)) dX8_measure_51 ?_
          refine ti (show (mS σ) (nI (stp a b)).toNatClampNeg = nI (σ (stp a b)) from by rw [nI_clamp (by omega)]; rfl) ?_
          refine lv_if_ne (tgt := 59) hx hb dX8_measure_52 (by decide) (fun c_52 => ?_) (fun c_52 => ?_)
          · have c_52 := (nz_ne c_52 (by omega))
            refine lv_bipush (v := (nI 99)) hx hb dX8_measure_59 (by decide) ?_
            refine va_iast hx hb hK hP hD hS 1 0 rfl rfl (vp_in_nI (n := ((12 * a) + b)) (by omega) (by omega)) dX8_measure_61 (fun H locs hP hD hS => ?_)
            rw [nI_clamp (n := ((12 * a) + b)) (by omega)] at hP hD
            rw [mS_up] at hP hD
            have hP : va_P g vwCl [(mo, .inr (6, [.int (nI rf), .ref a1, .int (nI z), .ref a2, .ref a3, .ref a4, .int (nI ac), .ref a5, .ref a6, .ref mw, .ref mh, .int (nI sp), .int (nI ou)])), aI cy mw 144 (mS (up (fwB σ wy (12 * a + b)) ((12 * a) + b) 99)), aI cy sa 248 (mS σ)] H := hP
            have hD : va_D A [(mo, .inr (6, [.int (nI rf), .ref a1, .int (nI z), .ref a2, .ref a3, .ref a4, .int (nI ac), .ref a5, .ref a6, .ref mw, .ref mh, .int (nI sp), .int (nI ou)])), aI cy mw 144 (mS (up (fwB σ wy (12 * a + b)) ((12 * a) + b) 99)), aI cy sa 248 (mS σ)] := hD
            rw [show mS (up (fwB σ wy (12 * a + b)) ((12 * a) + b) 99) = (mS (fwB σ wy (12 * a + b + 1))) from (congrArg mS (fwB_v (fw0_v (by omega) (Or.inr (Or.inr ⟨c_35, Or.inr c_52, rfl⟩)))))] at hP hD
            refine lv_iinc (v := (nI (b + 1))) (lv' := [(3, .int (nI (b + 1))), (4, .int (nI (stp a b))), (0, .ref mo), (1, .ref sa), (2, .int (nI a))]) hx hb dX8_measure_62 hl (k := 4) rfl (nI_add b 1) (by decide) rfl (fun ls hl => ?_)
            refine lv_goto (tgt := 10) hx hb dX8_measure_65 (by decide) ?_
            exact ih10 (b + 1) H locs ls ⟨hP, hD, hS, lv_sub hl [2, 3, 4, 0] rfl, (by omega)⟩ (by first | omega | (dsimp only; omega))
          · have c_52 := (nz_eq c_52 (by omega))
            refine lv_iconst (v := (nI 1)) hx hb dX8_measure_55 (by decide) ?_
            refine lv_goto (tgt := 61) hx hb dX8_measure_56 (by decide) ?_
            refine va_iast hx hb hK hP hD hS 1 0 rfl rfl (vp_in_nI (n := ((12 * a) + b)) (by omega) (by omega)) dX8_measure_61 (fun H locs hP hD hS => ?_)
            rw [nI_clamp (n := ((12 * a) + b)) (by omega)] at hP hD
            rw [mS_up] at hP hD
            have hP : va_P g vwCl [(mo, .inr (6, [.int (nI rf), .ref a1, .int (nI z), .ref a2, .ref a3, .ref a4, .int (nI ac), .ref a5, .ref a6, .ref mw, .ref mh, .int (nI sp), .int (nI ou)])), aI cy mw 144 (mS (up (fwB σ wy (12 * a + b)) ((12 * a) + b) 1)), aI cy sa 248 (mS σ)] H := hP
            have hD : va_D A [(mo, .inr (6, [.int (nI rf), .ref a1, .int (nI z), .ref a2, .ref a3, .ref a4, .int (nI ac), .ref a5, .ref a6, .ref mw, .ref mh, .int (nI sp), .int (nI ou)])), aI cy mw 144 (mS (up (fwB σ wy (12 * a + b)) ((12 * a) + b) 1)), aI cy sa 248 (mS σ)] := hD
            rw [show mS (up (fwB σ wy (12 * a + b)) ((12 * a) + b) 1) = (mS (fwB σ wy (12 * a + b + 1))) from (congrArg mS (fwB_v (fw0_v (by omega) (Or.inr (Or.inl ⟨c_35, c_45, c_52, rfl⟩)))))] at hP hD
            refine lv_iinc (v := (nI (b + 1))) (lv' := [(3, .int (nI (b + 1))), (4, .int (nI (stp a b))), (0, .ref mo), (1, .ref sa), (2, .int (nI a))]) hx hb dX8_measure_62 hl (k := 4) rfl (nI_add b 1) (by decide) rfl (fun ls hl => ?_)
            refine lv_goto (tgt := 10) hx hb dX8_measure_65 (by decide) ?_
            exact ih10 (b + 1) H locs ls ⟨hP, hD, hS, lv_sub hl [2, 3, 4, 0] rfl, (by omega)⟩ (by first | omega | (dsimp only; omega))
      · have c_35 := (nc_eq9 (by omega) (by omega) c_35)
        refine lv_iconst (v := (nI 0)) hx hb dX8_measure_38 (by decide) ?_
        refine lv_goto (tgt := 61) hx hb dX8_measure_39 (by decide) ?_
        refine va_iast hx hb hK hP hD hS 1 0 rfl rfl (vp_in_nI (n := ((12 * a) + b)) (by omega) (by omega)) dX8_measure_61 (fun H locs hP hD hS => ?_)
        rw [nI_clamp (n := ((12 * a) + b)) (by omega)] at hP hD
        rw [mS_up] at hP hD
        have hP : va_P g vwCl [(mo, .inr (6, [.int (nI rf), .ref a1, .int (nI z), .ref a2, .ref a3, .ref a4, .int (nI ac), .ref a5, .ref a6, .ref mw, .ref mh, .int (nI sp), .int (nI ou)])), aI cy mw 144 (mS (up (fwB σ wy (12 * a + b)) ((12 * a) + b) 0)), aI cy sa 248 (mS σ)] H := hP
        have hD : va_D A [(mo, .inr (6, [.int (nI rf), .ref a1, .int (nI z), .ref a2, .ref a3, .ref a4, .int (nI ac), .ref a5, .ref a6, .ref mw, .ref mh, .int (nI sp), .int (nI ou)])), aI cy mw 144 (mS (up (fwB σ wy (12 * a + b)) ((12 * a) + b) 0)), aI cy sa 248 (mS σ)] := hD
        rw [show mS (up (fwB σ wy (12 * a + b)) ((12 * a) + b) 0) = (mS (fwB σ wy (12 * a + b + 1))) from (congrArg mS (fwB_v (fw0_v (by omega) (Or.inl ⟨c_35, rfl⟩))))] at hP hD
        refine lv_iinc (v := (nI (b + 1))) (lv' := [(3, .int (nI (b + 1))), (4, .int (nI (stp a b))), (0, .ref mo), (1, .ref sa), (2, .int (nI a))]) hx hb dX8_measure_62 hl (k := 4) rfl (nI_add b 1) (by decide) rfl (fun ls hl => ?_)
        refine lv_goto (tgt := 10) hx hb dX8_measure_65 (by decide) ?_
        exact ih10 (b + 1) H locs ls ⟨hP, hD, hS, lv_sub hl [2, 3, 4, 0] rfl, (by omega)⟩ (by first | omega | (dsimp only; omega))
set_option maxHeartbeats 4000000 in
set_option maxRecDepth 100000 in
theorem c_X8_loseOn (l : Launch) (g : va_G) (cy : Nat → ClassId) (sa : Nat) (sz : Nat) (σ : Nat → Nat) (m9 : Nat) (p9 : Nat) (c9 : Nat) (r9 : Nat) (hlt : σ 0 < 6) : Met l yX8_loseOn (Cond.code yX8_loseOn cX8_loseOn 7 (some .int) :: wsL_law) ({ frames := 0, cells := 0, slots := 0, locals := 0 } : Room) (va_Pc [.ref sa, .int (nI m9), .int (nI p9), .int (nI c9), .int (nI r9)] (pr g cy [aI cy sa 248 (mS σ)] sz)) (wr_Q (fun _ : Unit => (some (.int (nI (σ 0))))) (fun _ : Unit => True) (fun _ : Unit => [aI cy sa 248 (mS (loseS σ m9 p9 c9 r9))]) g (va_A [aI cy sa 248 (mS σ)] sz)) 0 0 (va_A [aI cy sa 248 (mS σ)] sz) := by
  refine mt_of (cc := cX8_loseOn) (maxL := 7) (ret := (some .int)) (by decide +kernel) (Nat.le_of_ble_eq_true rfl) ?_
  intro pX eX s mX below meth cX ls A hx hb hr hml hown hts hlk hin hsz hAe hA hP hD hK hX hl
  subst hsz
  rw [← hAe]
  clear hAe
  have hl : lv_has ls 7 [(0, .ref sa), (1, .int (nI m9)), (2, .int (nI p9)), (3, .int (nI c9)), (4, .int (nI r9))] := hl
  have hS : va_S A s.heap s.heap [] := va_S.rf
  refine lv_aload_n hx hb dX8_loseOn_0 rfl (lv_at hl 0 rfl) ?_
  refine lv_iconst (v := (nI 0)) hx hb dX8_loseOn_1 (by decide) ?_
  refine va_iald hx hb hK hP 0 0 rfl rfl (vp_in_nI (n := 0) (by omega) (by omega)) dX8_loseOn_2 ?_
  refine ti (show (mS σ) (nI 0).toNatClampNeg = nI (σ 0) from by rw [nI_clamp (by omega)]; rfl) ?_
  refine lv_istore (lv' := [(5, .int (nI (σ 0))), (0, .ref sa), (1, .int (nI m9)), (2, .int (nI p9)), (3, .int (nI c9)), (4, .int (nI r9))]) hx hb dX8_loseOn_3 hl (by decide) rfl (fun ls hl => ?_)
  refine lv_bipush (v := (nI 40)) hx hb dX8_loseOn_5 (by decide) ?_
  refine lv_bipush (v := (nI 8)) hx hb dX8_loseOn_7 (by decide) ?_
  refine lv_iload hx hb dX8_loseOn_9 (lv_at hl 0 rfl) ?_
  refine lv_imul hx hb dX8_loseOn_11 ?_
  refine ti (pk_mul 8 (σ 0)) ?_
  refine lv_iadd hx hb dX8_loseOn_12 ?_
  refine ti (nI_add 40 (8 * (σ 0))) ?_
  refine lv_istore (lv' := [(6, .int (nI (40 + (8 * (σ 0))))), (5, .int (nI (σ 0))), (0, .ref sa), (1, .int (nI m9)), (2, .int (nI p9)), (3, .int (nI c9)), (4, .int (nI r9))]) hx hb dX8_loseOn_13 hl (by decide) rfl (fun ls hl => ?_)
  refine lv_aload_n hx hb dX8_loseOn_15 rfl (lv_at hl 2 rfl) ?_
  refine lv_iload hx hb dX8_loseOn_16 (lv_at hl 0 rfl) ?_
  refine lv_iconst (v := (nI 0)) hx hb dX8_loseOn_18 (by decide) ?_
  refine lv_iadd hx hb dX8_loseOn_19 ?_
  refine ti (nI_add (40 + (8 * (σ 0))) 0) ?_
  refine lv_iload_n hx hb dX8_loseOn_20 rfl (lv_at hl 3 rfl) ?_
  refine va_iast hx hb hK hP hD hS 0 0 rfl rfl (vp_in_nI (n := ((40 + (8 * (σ 0))) + 0)) (by omega) (by omega)) dX8_loseOn_21 (fun H locs hP hD hS => ?_)
  rw [nI_clamp (n := ((40 + (8 * (σ 0))) + 0)) (by omega)] at hP hD
  rw [mS_up] at hP hD
  have hP : va_P g vwCl [aI cy sa 248 (mS (up σ ((40 + (8 * (σ 0))) + 0) m9))] H := hP
  have hD : va_D A [aI cy sa 248 (mS (up σ ((40 + (8 * (σ 0))) + 0) m9))] := hD
  refine lv_aload_n hx hb dX8_loseOn_22 rfl (lv_at hl 2 rfl) ?_
  refine lv_iload hx hb dX8_loseOn_23 (lv_at hl 0 rfl) ?_
  refine lv_iconst (v := (nI 1)) hx hb dX8_loseOn_25 (by decide) ?_
  refine lv_iadd hx hb dX8_loseOn_26 ?_
  refine ti (nI_add (40 + (8 * (σ 0))) 1) ?_
  refine lv_iload_n hx hb dX8_loseOn_27 rfl (lv_at hl 4 rfl) ?_
  refine va_iast hx hb hK hP hD hS 0 0 rfl rfl (vp_in_nI (n := ((40 + (8 * (σ 0))) + 1)) (by omega) (by omega)) dX8_loseOn_28 (fun H locs hP hD hS => ?_)
  rw [nI_clamp (n := ((40 + (8 * (σ 0))) + 1)) (by omega)] at hP hD
  rw [mS_up] at hP hD
  have hP : va_P g vwCl [aI cy sa 248 (mS (up (up σ ((40 + (8 * (σ 0))) + 0) m9) ((40 + (8 * (σ 0))) + 1) p9))] H := hP
  have hD : va_D A [aI cy sa 248 (mS (up (up σ ((40 + (8 * (σ 0))) + 0) m9) ((40 + (8 * (σ 0))) + 1) p9))] := hD
  refine lv_aload_n hx hb dX8_loseOn_29 rfl (lv_at hl 2 rfl) ?_
  refine lv_iload hx hb dX8_loseOn_30 (lv_at hl 0 rfl) ?_
  refine lv_iconst (v := (nI 2)) hx hb dX8_loseOn_32 (by decide) ?_
  refine lv_iadd hx hb dX8_loseOn_33 ?_
  refine ti (nI_add (40 + (8 * (σ 0))) 2) ?_
  refine lv_iload_n hx hb dX8_loseOn_34 rfl (lv_at hl 5 rfl) ?_
  refine va_iast hx hb hK hP hD hS 0 0 rfl rfl (vp_in_nI (n := ((40 + (8 * (σ 0))) + 2)) (by omega) (by omega)) dX8_loseOn_35 (fun H locs hP hD hS => ?_)
  rw [nI_clamp (n := ((40 + (8 * (σ 0))) + 2)) (by omega)] at hP hD
  rw [mS_up] at hP hD
  have hP : va_P g vwCl [aI cy sa 248 (mS (up (up (up σ ((40 + (8 * (σ 0))) + 0) m9) ((40 + (8 * (σ 0))) + 1) p9) ((40 + (8 * (σ 0))) + 2) c9))] H := hP
  have hD : va_D A [aI cy sa 248 (mS (up (up (up σ ((40 + (8 * (σ 0))) + 0) m9) ((40 + (8 * (σ 0))) + 1) p9) ((40 + (8 * (σ 0))) + 2) c9))] := hD
  refine lv_aload_n hx hb dX8_loseOn_36 rfl (lv_at hl 2 rfl) ?_
  refine lv_iload hx hb dX8_loseOn_37 (lv_at hl 0 rfl) ?_
  refine lv_iconst (v := (nI 3)) hx hb dX8_loseOn_39 (by decide) ?_
  refine lv_iadd hx hb dX8_loseOn_40 ?_
  refine ti (nI_add (40 + (8 * (σ 0))) 3) ?_
  refine lv_aload_n hx hb dX8_loseOn_41 rfl (lv_at hl 2 rfl) ?_
  refine lv_iconst (v := (nI 2)) hx hb dX8_loseOn_42 (by decide) ?_
  refine va_iald hx hb hK hP 0 0 rfl rfl (vp_in_nI (n := 2) (by omega) (by omega)) dX8_loseOn_43 ?_
  refine ti (show (mS (up (up (up σ ((40 + (8 * (σ 0))) + 0) m9) ((40 + (8 * (σ 0))) + 1) p9) ((40 + (8 * (σ 0))) + 2) c9)) (nI 2).toNatClampNeg = nI ((up (up (up σ ((40 + (8 * (σ 0))) + 0) m9) ((40 + (8 * (σ 0))) + 1) p9) ((40 + (8 * (σ 0))) + 2) c9) 2) from by rw [nI_clamp (by omega)]; rfl) ?_
  refine ti (show (nI ((up (up (up σ ((40 + (8 * (σ 0))) + 0) m9) ((40 + (8 * (σ 0))) + 1) p9) ((40 + (8 * (σ 0))) + 2) c9) 2)) = (nI (σ 2)) from (congrArg nI (by rw [up_n (by omega), up_n (by omega), up_n (by omega)]))) ?_
  refine va_iast hx hb hK hP hD hS 0 0 rfl rfl (vp_in_nI (n := ((40 + (8 * (σ 0))) + 3)) (by omega) (by omega)) dX8_loseOn_44 (fun H locs hP hD hS => ?_)
  rw [nI_clamp (n := ((40 + (8 * (σ 0))) + 3)) (by omega)] at hP hD
  rw [mS_up] at hP hD
  have hP : va_P g vwCl [aI cy sa 248 (mS (up (up (up (up σ ((40 + (8 * (σ 0))) + 0) m9) ((40 + (8 * (σ 0))) + 1) p9) ((40 + (8 * (σ 0))) + 2) c9) ((40 + (8 * (σ 0))) + 3) (σ 2)))] H := hP
  have hD : va_D A [aI cy sa 248 (mS (up (up (up (up σ ((40 + (8 * (σ 0))) + 0) m9) ((40 + (8 * (σ 0))) + 1) p9) ((40 + (8 * (σ 0))) + 2) c9) ((40 + (8 * (σ 0))) + 3) (σ 2)))] := hD
  refine lv_aload_n hx hb dX8_loseOn_45 rfl (lv_at hl 2 rfl) ?_
  refine lv_iload hx hb dX8_loseOn_46 (lv_at hl 0 rfl) ?_
  refine lv_iconst (v := (nI 4)) hx hb dX8_loseOn_48 (by decide) ?_
  refine lv_iadd hx hb dX8_loseOn_49 ?_
  refine ti (nI_add (40 + (8 * (σ 0))) 4) ?_
  refine lv_iload hx hb dX8_loseOn_50 (lv_at hl 6 rfl) ?_
  refine va_iast hx hb hK hP hD hS 0 0 rfl rfl (vp_in_nI (n := ((40 + (8 * (σ 0))) + 4)) (by omega) (by omega)) dX8_loseOn_52 (fun H locs hP hD hS => ?_)
  rw [nI_clamp (n := ((40 + (8 * (σ 0))) + 4)) (by omega)] at hP hD
  rw [mS_up] at hP hD
  have hP : va_P g vwCl [aI cy sa 248 (mS (up (up (up (up (up σ ((40 + (8 * (σ 0))) + 0) m9) ((40 + (8 * (σ 0))) + 1) p9) ((40 + (8 * (σ 0))) + 2) c9) ((40 + (8 * (σ 0))) + 3) (σ 2)) ((40 + (8 * (σ 0))) + 4) r9))] H := hP
  have hD : va_D A [aI cy sa 248 (mS (up (up (up (up (up σ ((40 + (8 * (σ 0))) + 0) m9) ((40 + (8 * (σ 0))) + 1) p9) ((40 + (8 * (σ 0))) + 2) c9) ((40 + (8 * (σ 0))) + 3) (σ 2)) ((40 + (8 * (σ 0))) + 4) r9))] := hD
  refine lv_aload_n hx hb dX8_loseOn_53 rfl (lv_at hl 2 rfl) ?_
  refine lv_iload hx hb dX8_loseOn_54 (lv_at hl 0 rfl) ?_
  refine lv_iconst (v := (nI 5)) hx hb dX8_loseOn_56 (by decide) ?_
  refine lv_iadd hx hb dX8_loseOn_57 ?_
  refine ti (nI_add (40 + (8 * (σ 0))) 5) ?_
  refine lv_iconst (v := (nI NN)) hx hb dX8_loseOn_58 (by decide) ?_
  refine va_iast hx hb hK hP hD hS 0 0 rfl rfl (vp_in_nI (n := ((40 + (8 * (σ 0))) + 5)) (by omega) (by omega)) dX8_loseOn_59 (fun H locs hP hD hS => ?_)
  rw [nI_clamp (n := ((40 + (8 * (σ 0))) + 5)) (by omega)] at hP hD
  rw [mS_up] at hP hD
  have hP : va_P g vwCl [aI cy sa 248 (mS (up (up (up (up (up (up σ ((40 + (8 * (σ 0))) + 0) m9) ((40 + (8 * (σ 0))) + 1) p9) ((40 + (8 * (σ 0))) + 2) c9) ((40 + (8 * (σ 0))) + 3) (σ 2)) ((40 + (8 * (σ 0))) + 4) r9) ((40 + (8 * (σ 0))) + 5) NN))] H := hP
  have hD : va_D A [aI cy sa 248 (mS (up (up (up (up (up (up σ ((40 + (8 * (σ 0))) + 0) m9) ((40 + (8 * (σ 0))) + 1) p9) ((40 + (8 * (σ 0))) + 2) c9) ((40 + (8 * (σ 0))) + 3) (σ 2)) ((40 + (8 * (σ 0))) + 4) r9) ((40 + (8 * (σ 0))) + 5) NN))] := hD
  refine lv_aload_n hx hb dX8_loseOn_60 rfl (lv_at hl 2 rfl) ?_
  refine lv_iload hx hb dX8_loseOn_61 (lv_at hl 0 rfl) ?_
  refine lv_bipush (v := (nI 6)) hx hb dX8_loseOn_63 (by decide) ?_
  refine lv_iadd hx hb dX8_loseOn_65 ?_
  refine ti (nI_add (40 + (8 * (σ 0))) 6) ?_
  refine lv_iconst (v := (nI NN)) hx hb dX8_loseOn_66 (by decide) ?_
  refine va_iast hx hb hK hP hD hS 0 0 rfl rfl (vp_in_nI (n := ((40 + (8 * (σ 0))) + 6)) (by omega) (by omega)) dX8_loseOn_67 (fun H locs hP hD hS => ?_)
  rw [nI_clamp (n := ((40 + (8 * (σ 0))) + 6)) (by omega)] at hP hD
  rw [mS_up] at hP hD
  have hP : va_P g vwCl [aI cy sa 248 (mS (up (up (up (up (up (up (up σ ((40 + (8 * (σ 0))) + 0) m9) ((40 + (8 * (σ 0))) + 1) p9) ((40 + (8 * (σ 0))) + 2) c9) ((40 + (8 * (σ 0))) + 3) (σ 2)) ((40 + (8 * (σ 0))) + 4) r9) ((40 + (8 * (σ 0))) + 5) NN) ((40 + (8 * (σ 0))) + 6) NN))] H := hP
  have hD : va_D A [aI cy sa 248 (mS (up (up (up (up (up (up (up σ ((40 + (8 * (σ 0))) + 0) m9) ((40 + (8 * (σ 0))) + 1) p9) ((40 + (8 * (σ 0))) + 2) c9) ((40 + (8 * (σ 0))) + 3) (σ 2)) ((40 + (8 * (σ 0))) + 4) r9) ((40 + (8 * (σ 0))) + 5) NN) ((40 + (8 * (σ 0))) + 6) NN))] := hD
  refine lv_aload_n hx hb dX8_loseOn_68 rfl (lv_at hl 2 rfl) ?_
  refine lv_iload hx hb dX8_loseOn_69 (lv_at hl 0 rfl) ?_
  refine lv_bipush (v := (nI 7)) hx hb dX8_loseOn_71 (by decide) ?_
  refine lv_iadd hx hb dX8_loseOn_73 ?_
  refine ti (nI_add (40 + (8 * (σ 0))) 7) ?_
  refine lv_iconst (v := (nI NN)) hx hb dX8_loseOn_74 (by decide) ?_
  refine va_iast hx hb hK hP hD hS 0 0 rfl rfl (vp_in_nI (n := ((40 + (8 * (σ 0))) + 7)) (by omega) (by omega)) dX8_loseOn_75 (fun H locs hP hD hS => ?_)
  rw [nI_clamp (n := ((40 + (8 * (σ 0))) + 7)) (by omega)] at hP hD
  rw [mS_up] at hP hD
  have hP : va_P g vwCl [aI cy sa 248 (mS (up (up (up (up (up (up (up (up σ ((40 + (8 * (σ 0))) + 0) m9) ((40 + (8 * (σ 0))) + 1) p9) ((40 + (8 * (σ 0))) + 2) c9) ((40 + (8 * (σ 0))) + 3) (σ 2)) ((40 + (8 * (σ 0))) + 4) r9) ((40 + (8 * (σ 0))) + 5) NN) ((40 + (8 * (σ 0))) + 6) NN) ((40 + (8 * (σ 0))) + 7) NN))] H := hP
  have hD : va_D A [aI cy sa 248 (mS (up (up (up (up (up (up (up (up σ ((40 + (8 * (σ 0))) + 0) m9) ((40 + (8 * (σ 0))) + 1) p9) ((40 + (8 * (σ 0))) + 2) c9) ((40 + (8 * (σ 0))) + 3) (σ 2)) ((40 + (8 * (σ 0))) + 4) r9) ((40 + (8 * (σ 0))) + 5) NN) ((40 + (8 * (σ 0))) + 6) NN) ((40 + (8 * (σ 0))) + 7) NN))] := hD
  refine lv_aload_n hx hb dX8_loseOn_76 rfl (lv_at hl 2 rfl) ?_
  refine lv_iconst (v := (nI 3)) hx hb dX8_loseOn_77 (by decide) ?_
  refine lv_dup2_11 hx hb dX8_loseOn_78 rfl rfl ?_
  refine va_iald hx hb hK hP 0 0 rfl rfl (vp_in_nI (n := 3) (by omega) (by omega)) dX8_loseOn_79 ?_
  refine ti (show (mS (up (up (up (up (up (up (up (up σ ((40 + (8 * (σ 0))) + 0) m9) ((40 + (8 * (σ 0))) + 1) p9) ((40 + (8 * (σ 0))) + 2) c9) ((40 + (8 * (σ 0))) + 3) (σ 2)) ((40 + (8 * (σ 0))) + 4) r9) ((40 + (8 * (σ 0))) + 5) NN) ((40 + (8 * (σ 0))) + 6) NN) ((40 + (8 * (σ 0))) + 7) NN)) (nI 3).toNatClampNeg = nI ((up (up (up (up (up (up (up (up σ ((40 + (8 * (σ 0))) + 0) m9) ((40 + (8 * (σ 0))) + 1) p9) ((40 + (8 * (σ 0))) + 2) c9) ((40 + (8 * (σ 0))) + 3) (σ 2)) ((40 + (8 * (σ 0))) + 4) r9) ((40 + (8 * (σ 0))) + 5) NN) ((40 + (8 * (σ 0))) + 6) NN) ((40 + (8 * (σ 0))) + 7) NN) 3) from by rw [nI_clamp (by omega)]; rfl) ?_
  refine ti (show (nI ((up (up (up (up (up (up (up (up σ ((40 + (8 * (σ 0))) + 0) m9) ((40 + (8 * (σ 0))) + 1) p9) ((40 + (8 * (σ 0))) + 2) c9) ((40 + (8 * (σ 0))) + 3) (σ 2)) ((40 + (8 * (σ 0))) + 4) r9) ((40 + (8 * (σ 0))) + 5) NN) ((40 + (8 * (σ 0))) + 6) NN) ((40 + (8 * (σ 0))) + 7) NN) 3)) = (nI (σ 3)) from (congrArg nI (by rw [up_n (by omega), up_n (by omega), up_n (by omega), up_n (by omega), up_n (by omega), up_n (by omega), up_n (by omega), up_n (by omega)]))) ?_
  refine lv_iload hx hb dX8_loseOn_80 (lv_at hl 6 rfl) ?_
  refine lv_iadd hx hb dX8_loseOn_82 ?_
  refine ti (nI_add (σ 3) r9) ?_
  refine va_iast hx hb hK hP hD hS 0 0 rfl rfl (vp_in_nI (n := 3) (by omega) (by omega)) dX8_loseOn_83 (fun H locs hP hD hS => ?_)
  rw [nI_clamp (n := 3) (by omega)] at hP hD
  rw [mS_up] at hP hD
  have hP : va_P g vwCl [aI cy sa 248 (mS (up (up (up (up (up (up (up (up (up σ ((40 + (8 * (σ 0))) + 0) m9) ((40 + (8 * (σ 0))) + 1) p9) ((40 + (8 * (σ 0))) + 2) c9) ((40 + (8 * (σ 0))) + 3) (σ 2)) ((40 + (8 * (σ 0))) + 4) r9) ((40 + (8 * (σ 0))) + 5) NN) ((40 + (8 * (σ 0))) + 6) NN) ((40 + (8 * (σ 0))) + 7) NN) 3 ((σ 3) + r9)))] H := hP
  have hD : va_D A [aI cy sa 248 (mS (up (up (up (up (up (up (up (up (up σ ((40 + (8 * (σ 0))) + 0) m9) ((40 + (8 * (σ 0))) + 1) p9) ((40 + (8 * (σ 0))) + 2) c9) ((40 + (8 * (σ 0))) + 3) (σ 2)) ((40 + (8 * (σ 0))) + 4) r9) ((40 + (8 * (σ 0))) + 5) NN) ((40 + (8 * (σ 0))) + 6) NN) ((40 + (8 * (σ 0))) + 7) NN) 3 ((σ 3) + r9)))] := hD
  refine lv_aload_n hx hb dX8_loseOn_84 rfl (lv_at hl 2 rfl) ?_
  refine lv_iconst (v := (nI 0)) hx hb dX8_loseOn_85 (by decide) ?_
  refine lv_dup2_11 hx hb dX8_loseOn_86 rfl rfl ?_
  refine va_iald hx hb hK hP 0 0 rfl rfl (vp_in_nI (n := 0) (by omega) (by omega)) dX8_loseOn_87 ?_
  refine ti (show (mS (up (up (up (up (up (up (up (up (up σ ((40 + (8 * (σ 0))) + 0) m9) ((40 + (8 * (σ 0))) + 1) p9) ((40 + (8 * (σ 0))) + 2) c9) ((40 + (8 * (σ 0))) + 3) (σ 2)) ((40 + (8 * (σ 0))) + 4) r9) ((40 + (8 * (σ 0))) + 5) NN) ((40 + (8 * (σ 0))) + 6) NN) ((40 + (8 * (σ 0))) + 7) NN) 3 ((σ 3) + r9))) (nI 0).toNatClampNeg = nI ((up (up (up (up (up (up (up (up (up σ ((40 + (8 * (σ 0))) + 0) m9) ((40 + (8 * (σ 0))) + 1) p9) ((40 + (8 * (σ 0))) + 2) c9) ((40 + (8 * (σ 0))) + 3) (σ 2)) ((40 + (8 * (σ 0))) + 4) r9) ((40 + (8 * (σ 0))) + 5) NN) ((40 + (8 * (σ 0))) + 6) NN) ((40 + (8 * (σ 0))) + 7) NN) 3 ((σ 3) + r9)) 0) from by rw [nI_clamp (by omega)]; rfl) ?_
  refine ti (show (nI ((up (up (up (up (up (up (up (up (up σ ((40 + (8 * (σ 0))) + 0) m9) ((40 + (8 * (σ 0))) + 1) p9) ((40 + (8 * (σ 0))) + 2) c9) ((40 + (8 * (σ 0))) + 3) (σ 2)) ((40 + (8 * (σ 0))) + 4) r9) ((40 + (8 * (σ 0))) + 5) NN) ((40 + (8 * (σ 0))) + 6) NN) ((40 + (8 * (σ 0))) + 7) NN) 3 ((σ 3) + r9)) 0)) = (nI (σ 0)) from (congrArg nI (by rw [up_n (by omega), up_n (by omega), up_n (by omega), up_n (by omega), up_n (by omega), up_n (by omega), up_n (by omega), up_n (by omega), up_n (by omega)]))) ?_
  refine lv_iconst (v := (nI 1)) hx hb dX8_loseOn_88 (by decide) ?_
  refine lv_iadd hx hb dX8_loseOn_89 ?_
  refine ti (nI_add (σ 0) 1) ?_
  refine va_iast hx hb hK hP hD hS 0 0 rfl rfl (vp_in_nI (n := 0) (by omega) (by omega)) dX8_loseOn_90 (fun H locs hP hD hS => ?_)
  rw [nI_clamp (n := 0) (by omega)] at hP hD
  rw [mS_up] at hP hD
  have hP : va_P g vwCl [aI cy sa 248 (mS (up (up (up (up (up (up (up (up (up (up σ ((40 + (8 * (σ 0))) + 0) m9) ((40 + (8 * (σ 0))) + 1) p9) ((40 + (8 * (σ 0))) + 2) c9) ((40 + (8 * (σ 0))) + 3) (σ 2)) ((40 + (8 * (σ 0))) + 4) r9) ((40 + (8 * (σ 0))) + 5) NN) ((40 + (8 * (σ 0))) + 6) NN) ((40 + (8 * (σ 0))) + 7) NN) 3 ((σ 3) + r9)) 0 ((σ 0) + 1)))] H := hP
  have hD : va_D A [aI cy sa 248 (mS (up (up (up (up (up (up (up (up (up (up σ ((40 + (8 * (σ 0))) + 0) m9) ((40 + (8 * (σ 0))) + 1) p9) ((40 + (8 * (σ 0))) + 2) c9) ((40 + (8 * (σ 0))) + 3) (σ 2)) ((40 + (8 * (σ 0))) + 4) r9) ((40 + (8 * (σ 0))) + 5) NN) ((40 + (8 * (σ 0))) + 6) NN) ((40 + (8 * (σ 0))) + 7) NN) 3 ((σ 3) + r9)) 0 ((σ 0) + 1)))] := hD
  rw [show mS (up (up (up (up (up (up (up (up (up (up σ ((40 + (8 * (σ 0))) + 0) m9) ((40 + (8 * (σ 0))) + 1) p9) ((40 + (8 * (σ 0))) + 2) c9) ((40 + (8 * (σ 0))) + 3) (σ 2)) ((40 + (8 * (σ 0))) + 4) r9) ((40 + (8 * (σ 0))) + 5) NN) ((40 + (8 * (σ 0))) + 6) NN) ((40 + (8 * (σ 0))) + 7) NN) 3 ((σ 3) + r9)) 0 ((σ 0) + 1)) = (mS (loseS σ m9 p9 c9 r9)) from (congrArg mS (loseU hlt))] at hP hD
  refine lv_iload hx hb dX8_loseOn_91 (lv_at hl 1 rfl) ?_
  exact wr_i () rfl trivial hP hS hx hb hr dX8_loseOn_93 hlk
set_option maxHeartbeats 4000000 in
set_option maxRecDepth 100000 in
theorem c_X8_sightOn (l : Launch) (g : va_G) (cy : Nat → ClassId) (sa : Nat) (sz : Nat) (σ : Nat → Nat) (bd : Nat) (f9 : Nat) (c9 : Nat) (m9 : Nat) (a9 : Nat) (ph : Bool) (hwf : WF bd σ) (hlt : σ 1 < 20) (hm9 : m9 < 256) (ha9 : a9 ≤ σ 2) : Met l yX8_sightOn (Cond.code yX8_sightOn cX8_sightOn 7 (some .int) :: wsL_law) ({ frames := 3, cells := 0, slots := 0, locals := 69 } : Room) (va_Pc [.ref sa, .int (nI f9), .int (nI c9), .int (nI m9), .int (nI a9), .int (bI ph)] (pr g cy [aI cy sa 248 (mS σ)] sz)) (wr_Q (fun _ : Unit => (some (.int (nI (mea σ m9 (σ 2 - a9)))))) (fun _ : Unit => True) (fun _ : Unit => [aI cy sa 248 (mS (sightS σ f9 c9 m9 a9 (if ph then 1 else 0)))]) g (va_A [aI cy sa 248 (mS σ)] sz)) 0 0 (va_A [aI cy sa 248 (mS σ)] sz) := by
  refine mt_of (cc := cX8_sightOn) (maxL := 7) (ret := (some .int)) (by decide +kernel) (Nat.le_of_ble_eq_true rfl) ?_
  intro pX eX s mX below meth cX ls A hx hb hr hml hown hts hlk hin hsz hAe hA hP hD hK hX hl
  subst hsz
  rw [← hAe]
  clear hAe
  have hl : lv_has ls 7 [(0, .ref sa), (1, .int (nI f9)), (2, .int (nI c9)), (3, .int (nI m9)), (4, .int (nI a9)), (5, .int (bI ph))] := hl
  have hS : va_S A s.heap s.heap [] := va_S.rf
  have hn0 := hwf.n0
  have hn1 := hwf.n1
  have hh2 := hwf.h2
  refine lv_bipush (v := (nI 88)) hx hb dX8_sightOn_0 (by decide) ?_
  refine lv_bipush (v := (nI 8)) hx hb dX8_sightOn_2 (by decide) ?_
  refine lv_aload_n hx hb dX8_sightOn_4 rfl (lv_at hl 0 rfl) ?_
  refine lv_iconst (v := (nI 1)) hx hb dX8_sightOn_5 (by decide) ?_
  refine va_iald hx hb hK hP 0 0 rfl rfl (vp_in_nI (n := 1) (by omega) (by omega)) dX8_sightOn_6 ?_
  refine ti (show (mS σ) (nI 1).toNatClampNeg = nI (σ 1) from by rw [nI_clamp (by omega)]; rfl) ?_
  refine lv_imul hx hb dX8_sightOn_7 ?_
  refine ti (pk_mul 8 (σ 1)) ?_
  refine lv_iadd hx hb dX8_sightOn_8 ?_
  refine ti (nI_add 88 (8 * (σ 1))) ?_
  refine lv_istore (lv' := [(6, .int (nI (88 + (8 * (σ 1))))), (0, .ref sa), (1, .int (nI f9)), (2, .int (nI c9)), (3, .int (nI m9)), (4, .int (nI a9)), (5, .int (bI ph))]) hx hb dX8_sightOn_9 hl (by decide) rfl (fun ls hl => ?_)
  refine lv_aload_n hx hb dX8_sightOn_11 rfl (lv_at hl 1 rfl) ?_
  refine lv_iload hx hb dX8_sightOn_12 (lv_at hl 0 rfl) ?_
  refine lv_iconst (v := (nI 0)) hx hb dX8_sightOn_14 (by decide) ?_
  refine lv_iadd hx hb dX8_sightOn_15 ?_
  refine ti (nI_add (88 + (8 * (σ 1))) 0) ?_
  refine lv_iload_n hx hb dX8_sightOn_16 rfl (lv_at hl 2 rfl) ?_
  refine va_iast hx hb hK hP hD hS 0 0 rfl rfl (vp_in_nI (n := ((88 + (8 * (σ 1))) + 0)) (by omega) (by omega)) dX8_sightOn_17 (fun H locs hP hD hS => ?_)
  rw [nI_clamp (n := ((88 + (8 * (σ 1))) + 0)) (by omega)] at hP hD
  rw [mS_up] at hP hD
  have hP : va_P g vwCl [aI cy sa 248 (mS (up σ ((88 + (8 * (σ 1))) + 0) f9))] H := hP
  have hD : va_D A [aI cy sa 248 (mS (up σ ((88 + (8 * (σ 1))) + 0) f9))] := hD
  refine lv_aload_n hx hb dX8_sightOn_18 rfl (lv_at hl 1 rfl) ?_
  refine lv_iload hx hb dX8_sightOn_19 (lv_at hl 0 rfl) ?_
  refine lv_iconst (v := (nI 1)) hx hb dX8_sightOn_21 (by decide) ?_
  refine lv_iadd hx hb dX8_sightOn_22 ?_
  refine ti (nI_add (88 + (8 * (σ 1))) 1) ?_
  refine lv_iload_n hx hb dX8_sightOn_23 rfl (lv_at hl 3 rfl) ?_
  refine va_iast hx hb hK hP hD hS 0 0 rfl rfl (vp_in_nI (n := ((88 + (8 * (σ 1))) + 1)) (by omega) (by omega)) dX8_sightOn_24 (fun H locs hP hD hS => ?_)
  rw [nI_clamp (n := ((88 + (8 * (σ 1))) + 1)) (by omega)] at hP hD
  rw [mS_up] at hP hD
  have hP : va_P g vwCl [aI cy sa 248 (mS (up (up σ ((88 + (8 * (σ 1))) + 0) f9) ((88 + (8 * (σ 1))) + 1) c9))] H := hP
  have hD : va_D A [aI cy sa 248 (mS (up (up σ ((88 + (8 * (σ 1))) + 0) f9) ((88 + (8 * (σ 1))) + 1) c9))] := hD
  refine lv_aload_n hx hb dX8_sightOn_25 rfl (lv_at hl 1 rfl) ?_
  refine lv_iload hx hb dX8_sightOn_26 (lv_at hl 0 rfl) ?_
  refine lv_iconst (v := (nI 2)) hx hb dX8_sightOn_28 (by decide) ?_
  refine lv_iadd hx hb dX8_sightOn_29 ?_
  refine ti (nI_add (88 + (8 * (σ 1))) 2) ?_
  refine lv_aload_n hx hb dX8_sightOn_30 rfl (lv_at hl 1 rfl) ?_
  refine lv_iconst (v := (nI 2)) hx hb dX8_sightOn_31 (by decide) ?_
  refine va_iald hx hb hK hP 0 0 rfl rfl (vp_in_nI (n := 2) (by omega) (by omega)) dX8_sightOn_32 ?_
  refine ti (show (mS (up (up σ ((88 + (8 * (σ 1))) + 0) f9) ((88 + (8 * (σ 1))) + 1) c9)) (nI 2).toNatClampNeg = nI ((up (up σ ((88 + (8 * (σ 1))) + 0) f9) ((88 + (8 * (σ 1))) + 1) c9) 2) from by rw [nI_clamp (by omega)]; rfl) ?_
  refine ti (show (nI ((up (up σ ((88 + (8 * (σ 1))) + 0) f9) ((88 + (8 * (σ 1))) + 1) c9) 2)) = (nI (σ 2)) from (congrArg nI (by rw [up_n (by omega), up_n (by omega)]))) ?_
  refine lv_iload hx hb dX8_sightOn_33 (lv_at hl 5 rfl) ?_
  refine lv_isub hx hb dX8_sightOn_35 ?_
  refine ti (show ((nI (σ 2)) - (nI a9)) = (nI (σ 2 - a9)) from (pk_sub ha9)) ?_
  refine va_iast hx hb hK hP hD hS 0 0 rfl rfl (vp_in_nI (n := ((88 + (8 * (σ 1))) + 2)) (by omega) (by omega)) dX8_sightOn_36 (fun H locs hP hD hS => ?_)
  rw [nI_clamp (n := ((88 + (8 * (σ 1))) + 2)) (by omega)] at hP hD
  rw [mS_up] at hP hD
  have hP : va_P g vwCl [aI cy sa 248 (mS (up (up (up σ ((88 + (8 * (σ 1))) + 0) f9) ((88 + (8 * (σ 1))) + 1) c9) ((88 + (8 * (σ 1))) + 2) (σ 2 - a9)))] H := hP
  have hD : va_D A [aI cy sa 248 (mS (up (up (up σ ((88 + (8 * (σ 1))) + 0) f9) ((88 + (8 * (σ 1))) + 1) c9) ((88 + (8 * (σ 1))) + 2) (σ 2 - a9)))] := hD
  refine lv_aload_n hx hb dX8_sightOn_37 rfl (lv_at hl 1 rfl) ?_
  refine lv_iload hx hb dX8_sightOn_38 (lv_at hl 0 rfl) ?_
  refine lv_iconst (v := (nI 3)) hx hb dX8_sightOn_40 (by decide) ?_
  refine lv_iadd hx hb dX8_sightOn_41 ?_
  refine ti (nI_add (88 + (8 * (σ 1))) 3) ?_
  refine lv_iload_n hx hb dX8_sightOn_42 rfl (lv_at hl 4 rfl) ?_
  refine va_iast hx hb hK hP hD hS 0 0 rfl rfl (vp_in_nI (n := ((88 + (8 * (σ 1))) + 3)) (by omega) (by omega)) dX8_sightOn_43 (fun H locs hP hD hS => ?_)
  rw [nI_clamp (n := ((88 + (8 * (σ 1))) + 3)) (by omega)] at hP hD
  rw [mS_up] at hP hD
  have hP : va_P g vwCl [aI cy sa 248 (mS (up (up (up (up σ ((88 + (8 * (σ 1))) + 0) f9) ((88 + (8 * (σ 1))) + 1) c9) ((88 + (8 * (σ 1))) + 2) (σ 2 - a9)) ((88 + (8 * (σ 1))) + 3) m9))] H := hP
  have hD : va_D A [aI cy sa 248 (mS (up (up (up (up σ ((88 + (8 * (σ 1))) + 0) f9) ((88 + (8 * (σ 1))) + 1) c9) ((88 + (8 * (σ 1))) + 2) (σ 2 - a9)) ((88 + (8 * (σ 1))) + 3) m9))] := hD
  refine lv_aload_n hx hb dX8_sightOn_44 rfl (lv_at hl 1 rfl) ?_
  refine lv_iload hx hb dX8_sightOn_45 (lv_at hl 0 rfl) ?_
  refine lv_iconst (v := (nI 4)) hx hb dX8_sightOn_47 (by decide) ?_
  refine lv_iadd hx hb dX8_sightOn_48 ?_
  refine ti (nI_add (88 + (8 * (σ 1))) 4) ?_
  refine jn_i (pcj := 59) (ls := ls) (st := [.int (nI ((88 + (8 * (σ 1))) + 4)), .ref sa]) (fun v9 => v9 = (nI (if ph then 1 else 0))) ?_ (fun jn59 => ?_)
  · intro v9 hv9
    subst hv9
    refine va_iast hx hb hK hP hD hS 0 0 rfl rfl (vp_in_nI (n := ((88 + (8 * (σ 1))) + 4)) (by omega) (by omega)) dX8_sightOn_59 (fun H locs hP hD hS => ?_)
    rw [nI_clamp (n := ((88 + (8 * (σ 1))) + 4)) (by omega)] at hP hD
    rw [mS_up] at hP hD
    have hP : va_P g vwCl [aI cy sa 248 (mS (up (up (up (up (up σ ((88 + (8 * (σ 1))) + 0) f9) ((88 + (8 * (σ 1))) + 1) c9) ((88 + (8 * (σ 1))) + 2) (σ 2 - a9)) ((88 + (8 * (σ 1))) + 3) m9) ((88 + (8 * (σ 1))) + 4) (if ph then 1 else 0)))] H := hP
    have hD : va_D A [aI cy sa 248 (mS (up (up (up (up (up σ ((88 + (8 * (σ 1))) + 0) f9) ((88 + (8 * (σ 1))) + 1) c9) ((88 + (8 * (σ 1))) + 2) (σ 2 - a9)) ((88 + (8 * (σ 1))) + 3) m9) ((88 + (8 * (σ 1))) + 4) (if ph then 1 else 0)))] := hD
    rw [show (mS (up (up (up (up (up σ ((88 + (8 * (σ 1))) + 0) f9) ((88 + (8 * (σ 1))) + 1) c9) ((88 + (8 * (σ 1))) + 2) (σ 2 - a9)) ((88 + (8 * (σ 1))) + 3) m9) ((88 + (8 * (σ 1))) + 4) (if ph then 1 else 0))) = (mS (sU5 σ f9 c9 m9 a9 (if ph then 1 else 0))) from rfl] at hP hD
    refine lv_aload_n hx hb dX8_sightOn_60 rfl (lv_at hl 1 rfl) ?_
    refine lv_iload hx hb dX8_sightOn_61 (lv_at hl 0 rfl) ?_
    refine lv_iconst (v := (nI 5)) hx hb dX8_sightOn_63 (by decide) ?_
    refine lv_iadd hx hb dX8_sightOn_64 ?_
    refine ti (nI_add (88 + (8 * (σ 1))) 5) ?_
    refine lv_aload_n hx hb dX8_sightOn_65 rfl (lv_at hl 1 rfl) ?_
    refine lv_iload_n hx hb dX8_sightOn_66 rfl (lv_at hl 4 rfl) ?_
    refine lv_aload_n hx hb dX8_sightOn_67 rfl (lv_at hl 1 rfl) ?_
    refine lv_iconst (v := (nI 2)) hx hb dX8_sightOn_68 (by decide) ?_
    refine va_iald hx hb hK hP 0 0 rfl rfl (vp_in_nI (n := 2) (by omega) (by omega)) dX8_sightOn_69 ?_
    refine ti (show (mS (sU5 σ f9 c9 m9 a9 (if ph then 1 else 0))) (nI 2).toNatClampNeg = nI ((sU5 σ f9 c9 m9 a9 (if ph then 1 else 0)) 2) from by rw [nI_clamp (by omega)]; rfl) ?_
    refine ti (show (nI ((sU5 σ f9 c9 m9 a9 (if ph then 1 else 0)) 2)) = (nI (σ 2)) from (congrArg nI (sU5_lo (by omega)))) ?_
    refine lv_iload hx hb dX8_sightOn_70 (lv_at hl 5 rfl) ?_
    refine lv_isub hx hb dX8_sightOn_72 ?_
    refine ti (show ((nI (σ 2)) - (nI a9)) = (nI (σ 2 - a9)) from (pk_sub ha9)) ?_
    refine rd_call (va_runS (As := [.ref sa, .int (nI m9), .int (nI (σ 2 - a9))]) (rest := [.int (nI ((88 + (8 * (σ 1))) + 5)), .ref sa]) ⟨hx, hb, hml, hown, hts⟩ (c_X8_means l g cy sa H.size (sU5 σ f9 c9 m9 a9 (if ph then 1 else 0)) bd m9 (σ 2 - a9) (WF_ag hwf (fun i hi => sU5_lo hi)) (by omega) (by omega)) ⟨(cB 3 hts wd12_17 wd1_5 wd12_15 rfl rfl (by decide +kernel) ⟨Nat.le_of_ble_eq_true rfl, Nat.le_of_ble_eq_true rfl⟩), hts _ wd12_16⟩ (ps hK hP hD hS hA hX [0] rfl rfl) rfl rfl hl.1 rfl (lv_room (Nat.le_of_ble_eq_true rfl)) dX8_sightOn_73 ⟨Nat.zero_le _, Nat.zero_le _⟩) ?_
    show W _ _ _ _ _ _ _ _ _ _ _ _ _ _ _ (F0 mX 76 ls [.int (nI (mea (sU5 σ f9 c9 m9 a9 (if ph then 1 else 0)) m9 (σ 2 - a9))), .int (nI ((88 + (8 * (σ 1))) + 5)), .ref sa])
    refine ti (show (nI (mea (sU5 σ f9 c9 m9 a9 (if ph then 1 else 0)) m9 (σ 2 - a9))) = (nI (mea σ m9 (σ 2 - a9))) from (congrArg nI (mea_ag hn0 (fun i hi => sU5_lo (by omega))))) ?_
    refine va_iast hx hb hK hP hD hS 0 0 rfl rfl (vp_in_nI (n := ((88 + (8 * (σ 1))) + 5)) (by omega) (by omega)) dX8_sightOn_76 (fun H locs hP hD hS => ?_)
    rw [nI_clamp (n := ((88 + (8 * (σ 1))) + 5)) (by omega)] at hP hD
    rw [mS_up] at hP hD
    have hP : va_P g vwCl [aI cy sa 248 (mS (up (sU5 σ f9 c9 m9 a9 (if ph then 1 else 0)) ((88 + (8 * (σ 1))) + 5) (mea σ m9 (σ 2 - a9))))] H := hP
    have hD : va_D A [aI cy sa 248 (mS (up (sU5 σ f9 c9 m9 a9 (if ph then 1 else 0)) ((88 + (8 * (σ 1))) + 5) (mea σ m9 (σ 2 - a9))))] := hD
    refine lv_aload_n hx hb dX8_sightOn_77 rfl (lv_at hl 1 rfl) ?_
    refine lv_iload hx hb dX8_sightOn_78 (lv_at hl 0 rfl) ?_
    refine lv_bipush (v := (nI 6)) hx hb dX8_sightOn_80 (by decide) ?_
    refine lv_iadd hx hb dX8_sightOn_82 ?_
    refine ti (nI_add (88 + (8 * (σ 1))) 6) ?_
    refine lv_iconst (v := (nI 0)) hx hb dX8_sightOn_83 (by decide) ?_
    refine va_iast hx hb hK hP hD hS 0 0 rfl rfl (vp_in_nI (n := ((88 + (8 * (σ 1))) + 6)) (by omega) (by omega)) dX8_sightOn_84 (fun H locs hP hD hS => ?_)
    rw [nI_clamp (n := ((88 + (8 * (σ 1))) + 6)) (by omega)] at hP hD
    rw [mS_up] at hP hD
    have hP : va_P g vwCl [aI cy sa 248 (mS (up (up (sU5 σ f9 c9 m9 a9 (if ph then 1 else 0)) ((88 + (8 * (σ 1))) + 5) (mea σ m9 (σ 2 - a9))) ((88 + (8 * (σ 1))) + 6) 0))] H := hP
    have hD : va_D A [aI cy sa 248 (mS (up (up (sU5 σ f9 c9 m9 a9 (if ph then 1 else 0)) ((88 + (8 * (σ 1))) + 5) (mea σ m9 (σ 2 - a9))) ((88 + (8 * (σ 1))) + 6) 0))] := hD
    refine lv_aload_n hx hb dX8_sightOn_85 rfl (lv_at hl 1 rfl) ?_
    refine lv_iload hx hb dX8_sightOn_86 (lv_at hl 0 rfl) ?_
    refine lv_bipush (v := (nI 7)) hx hb dX8_sightOn_88 (by decide) ?_
    refine lv_iadd hx hb dX8_sightOn_90 ?_
    refine ti (nI_add (88 + (8 * (σ 1))) 7) ?_
    refine lv_iconst (v := (nI 0)) hx hb dX8_sightOn_91 (by decide) ?_
    refine va_iast hx hb hK hP hD hS 0 0 rfl rfl (vp_in_nI (n := ((88 + (8 * (σ 1))) + 7)) (by omega) (by omega)) dX8_sightOn_92 (fun H locs hP hD hS => ?_)
    rw [nI_clamp (n := ((88 + (8 * (σ 1))) + 7)) (by omega)] at hP hD
    rw [mS_up] at hP hD
    have hP : va_P g vwCl [aI cy sa 248 (mS (up (up (up (sU5 σ f9 c9 m9 a9 (if ph then 1 else 0)) ((88 + (8 * (σ 1))) + 5) (mea σ m9 (σ 2 - a9))) ((88 + (8 * (σ 1))) + 6) 0) ((88 + (8 * (σ 1))) + 7) 0))] H := hP
    have hD : va_D A [aI cy sa 248 (mS (up (up (up (sU5 σ f9 c9 m9 a9 (if ph then 1 else 0)) ((88 + (8 * (σ 1))) + 5) (mea σ m9 (σ 2 - a9))) ((88 + (8 * (σ 1))) + 6) 0) ((88 + (8 * (σ 1))) + 7) 0))] := hD
    rw [show (mS (up (up (up (sU5 σ f9 c9 m9 a9 (if ph then 1 else 0)) ((88 + (8 * (σ 1))) + 5) (mea σ m9 (σ 2 - a9))) ((88 + (8 * (σ 1))) + 6) 0) ((88 + (8 * (σ 1))) + 7) 0)) = (mS (sU8 σ f9 c9 m9 a9 (if ph then 1 else 0))) from rfl] at hP hD
    refine lv_aload_n hx hb dX8_sightOn_93 rfl (lv_at hl 1 rfl) ?_
    refine lv_iconst (v := (nI 1)) hx hb dX8_sightOn_94 (by decide) ?_
    refine lv_dup2_11 hx hb dX8_sightOn_95 rfl rfl ?_
    refine va_iald hx hb hK hP 0 0 rfl rfl (vp_in_nI (n := 1) (by omega) (by omega)) dX8_sightOn_96 ?_
    refine ti (show (mS (sU8 σ f9 c9 m9 a9 (if ph then 1 else 0))) (nI 1).toNatClampNeg = nI ((sU8 σ f9 c9 m9 a9 (if ph then 1 else 0)) 1) from by rw [nI_clamp (by omega)]; rfl) ?_
    refine ti (show (nI ((sU8 σ f9 c9 m9 a9 (if ph then 1 else 0)) 1)) = (nI (σ 1)) from (congrArg nI (sU8_lo (by omega)))) ?_
    refine lv_iconst (v := (nI 1)) hx hb dX8_sightOn_97 (by decide) ?_
    refine lv_iadd hx hb dX8_sightOn_98 ?_
    refine ti (nI_add (σ 1) 1) ?_
    refine va_iast hx hb hK hP hD hS 0 0 rfl rfl (vp_in_nI (n := 1) (by omega) (by omega)) dX8_sightOn_99 (fun H locs hP hD hS => ?_)
    rw [nI_clamp (n := 1) (by omega)] at hP hD
    rw [mS_up] at hP hD
    have hP : va_P g vwCl [aI cy sa 248 (mS (up (sU8 σ f9 c9 m9 a9 (if ph then 1 else 0)) 1 ((σ 1) + 1)))] H := hP
    have hD : va_D A [aI cy sa 248 (mS (up (sU8 σ f9 c9 m9 a9 (if ph then 1 else 0)) 1 ((σ 1) + 1)))] := hD
    rw [show mS (up (sU8 σ f9 c9 m9 a9 (if ph then 1 else 0)) 1 ((σ 1) + 1)) = (mS (sightS σ f9 c9 m9 a9 (if ph then 1 else 0))) from (congrArg mS (sightU hlt))] at hP hD
    refine lv_aload_n hx hb dX8_sightOn_100 rfl (lv_at hl 1 rfl) ?_
    refine lv_iload hx hb dX8_sightOn_101 (lv_at hl 0 rfl) ?_
    refine lv_iconst (v := (nI 5)) hx hb dX8_sightOn_103 (by decide) ?_
    refine lv_iadd hx hb dX8_sightOn_104 ?_
    refine ti (nI_add (88 + (8 * (σ 1))) 5) ?_
    refine va_iald hx hb hK hP 0 0 rfl rfl (vp_in_nI (n := ((88 + (8 * (σ 1))) + 5)) (by omega) (by omega)) dX8_sightOn_105 ?_
    refine ti (show (mS (sightS σ f9 c9 m9 a9 (if ph then 1 else 0))) (nI ((88 + (8 * (σ 1))) + 5)).toNatClampNeg = nI ((sightS σ f9 c9 m9 a9 (if ph then 1 else 0)) ((88 + (8 * (σ 1))) + 5)) from by rw [nI_clamp (by omega)]; rfl) ?_
    refine ti (show (nI ((sightS σ f9 c9 m9 a9 (if ph then 1 else 0)) ((88 + (8 * (σ 1))) + 5))) = (nI (mea σ m9 (σ 2 - a9))) from (congrArg nI (by rw [← sightU hlt, up_n (by omega)]; exact sU8_5))) ?_
    exact wr_i () rfl trivial hP hS hx hb hr dX8_sightOn_106 hlk
  · skip
    refine lv_iload hx hb dX8_sightOn_49 (lv_at hl 6 rfl) ?_
    refine lv_if_eq (tgt := 58) hx hb dX8_sightOn_51 (by decide) (fun c_51 => ?_) (fun c_51 => ?_)
    · have c_51 := (bI_eq0.mp c_51)
      refine lv_iconst (v := (nI 0)) hx hb dX8_sightOn_58 (by decide) ?_
      exact jn59 _ (congrArg nI (by simp [c_51]))
    · have c_51 := (bI_ne0.mp c_51)
      refine lv_iconst (v := (nI 1)) hx hb dX8_sightOn_54 (by decide) ?_
      refine lv_goto (tgt := 59) hx hb dX8_sightOn_55 (by decide) ?_
      exact jn59 _ (congrArg nI (by simp [c_51]))
set_option maxHeartbeats 4000000 in
set_option maxRecDepth 100000 in
theorem c_X8_closeOn (l : Launch) (g : va_G) (cy : Nat → ClassId) (sa : Nat) (sz : Nat) (σ : Nat → Nat) (bd : Nat) (a9 : Nat) (b9 : Nat) (k9 : Nat) (on : Bool) (hwf : WF bd σ) (ha9 : a9 < 12) (hb9 : b9 < 12) (hk9 : k9 < 17) (hspl : spl k9 = stp a9 b9) : Met l yX8_closeOn (Cond.code yX8_closeOn cX8_closeOn 4 (some .int) :: wsL_law) ({ frames := 1, cells := 0, slots := 0, locals := 23 } : Room) (va_Pc [.ref sa, .int (nI a9), .int (nI b9), .int (bI on)] (pr g cy [aI cy sa 248 (mS σ)] sz)) (wr_Q (fun _ : Unit => (some (.int (nI (ct (cmk (clS σ k9 on)).testBit 24))))) (fun _ : Unit => True) (fun _ : Unit => [aI cy sa 248 (mS (clS σ k9 on))]) g (va_A [aI cy sa 248 (mS σ)] sz)) 0 0 (va_A [aI cy sa 248 (mS σ)] sz) := by
  refine mt_of (cc := cX8_closeOn) (maxL := 4) (ret := (some .int)) (by decide +kernel) (Nat.le_of_ble_eq_true rfl) ?_
  intro pX eX s mX below meth cX ls A hx hb hr hml hown hts hlk hin hsz hAe hA hP hD hK hX hl
  subst hsz
  rw [← hAe]
  clear hAe
  have hl : lv_has ls 4 [(0, .ref sa), (1, .int (nI a9)), (2, .int (nI b9)), (3, .int (bI on))] := hl
  have hS : va_S A s.heap s.heap [] := va_S.rf
  have hn0 := hwf.n0
  have hn1 := hwf.n1
  have hh2 := hwf.h2
  have hso := spl_ok k9 hk9
  rw [hspl] at hso
  refine lv_aload_n hx hb dX8_closeOn_0 rfl (lv_at hl 0 rfl) ?_
  refine lv_iload_n hx hb dX8_closeOn_1 rfl (lv_at hl 1 rfl) ?_
  refine lv_iload_n hx hb dX8_closeOn_2 rfl (lv_at hl 2 rfl) ?_
  refine rd_call (va_runS (As := [.int (nI a9), .int (nI b9)]) (rest := [.ref sa]) ⟨hx, hb, hml, hown, hts⟩ (c_X8_street l a9 b9 (by omega) (by omega)) ⟨(cB 2 hts wd13_23 wd1_5 wd13_21 rfl rfl (by decide +kernel) ⟨Nat.le_of_ble_eq_true rfl, Nat.le_of_ble_eq_true rfl⟩), hts _ wd13_22⟩ p0 rfl rfl hl.1 rfl (lv_room (Nat.le_of_ble_eq_true rfl)) dX8_closeOn_3 ⟨Nat.zero_le _, Nat.zero_le _⟩) ?_
  show W _ _ _ _ _ _ _ _ _ _ _ _ _ _ _ (F0 mX 6 ls [.int (nI (stp a9 b9)), .ref sa])
  refine jn_i (pcj := 15) (ls := ls) (st := [.int (nI (stp a9 b9)), .ref sa]) (fun v9 => v9 = (nI (if on then 1 else 0))) ?_ (fun jn15 => ?_)
  · intro v9 hv9
    subst hv9
    refine va_iast hx hb hK hP hD hS 0 0 rfl rfl (vp_in_nI (n := (stp a9 b9)) (by omega) (by omega)) dX8_closeOn_15 (fun H locs hP hD hS => ?_)
    rw [nI_clamp (n := (stp a9 b9)) (by omega)] at hP hD
    rw [mS_up] at hP hD
    have hP : va_P g vwCl [aI cy sa 248 (mS (up σ (stp a9 b9) (if on then 1 else 0)))] H := hP
    have hD : va_D A [aI cy sa 248 (mS (up σ (stp a9 b9) (if on then 1 else 0)))] := hD
    rw [show mS (up σ (stp a9 b9) (if on then 1 else 0)) = (mS (clS σ k9 on)) from (congrArg mS (by unfold clS; rw [hspl]))] at hP hD
    refine lv_aload_n hx hb dX8_closeOn_16 rfl (lv_at hl 0 rfl) ?_
    refine rd_call (va_runS (As := [.ref sa]) (rest := []) ⟨hx, hb, hml, hown, hts⟩ (c_X8_closedMany l g cy sa H.size (clS σ k9 on) bd (WF_cl hwf hk9)) ⟨(cB 1 hts wd15_12 wd1_5 wd15_10 rfl rfl (by decide +kernel) ⟨Nat.le_of_ble_eq_true rfl, Nat.le_of_ble_eq_true rfl⟩), hts _ wd15_11⟩ (ps hK hP hD hS hA hX [0] rfl rfl) rfl rfl hl.1 rfl (lv_room (Nat.le_of_ble_eq_true rfl)) dX8_closeOn_17 ⟨Nat.zero_le _, Nat.zero_le _⟩) ?_
    show W _ _ _ _ _ _ _ _ _ _ _ _ _ _ _ (F0 mX 20 ls [.int (nI (ct (cmk (clS σ k9 on)).testBit 24))])
    exact wr_i () rfl trivial hP hS hx hb hr dX8_closeOn_20 hlk
  · skip
    refine lv_iload_n hx hb dX8_closeOn_6 rfl (lv_at hl 3 rfl) ?_
    refine lv_if_eq (tgt := 14) hx hb dX8_closeOn_7 (by decide) (fun c_7 => ?_) (fun c_7 => ?_)
    · have c_7 := (bI_eq0.mp c_7)
      refine lv_iconst (v := (nI 0)) hx hb dX8_closeOn_14 (by decide) ?_
      exact jn15 _ (congrArg nI (by simp [c_7]))
    · have c_7 := (bI_ne0.mp c_7)
      refine lv_iconst (v := (nI 1)) hx hb dX8_closeOn_10 (by decide) ?_
      refine lv_goto (tgt := 15) hx hb dX8_closeOn_11 (by decide) ?_
      exact jn15 _ (congrArg nI (by simp [c_7]))
set_option maxHeartbeats 4000000 in
set_option maxRecDepth 100000 in
theorem c_X8_hoursOn (l : Launch) (g : va_G) (cy : Nat → ClassId) (sa : Nat) (sz : Nat) (σ : Nat → Nat) (bd : Nat) (n9 : Nat) (hwf : WF bd σ) (hn9 : n9 ≤ 99) : Met l yX8_hoursOn (Cond.code yX8_hoursOn cX8_hoursOn 5 (some .int) :: wsL_law) ({ frames := 2, cells := 0, slots := 0, locals := 43 } : Room) (va_Pc [.ref sa, .int (nI n9)] (pr g cy [aI cy sa 248 (mS σ)] sz)) (wr_Q (fun _ : Unit => (some (.int (nI (sm (gro σ n9) (σ 0)))))) (fun _ : Unit => True) (fun _ : Unit => [aI cy sa 248 (mS (hoS σ n9))]) g (va_A [aI cy sa 248 (mS σ)] sz)) 0 0 (va_A [aI cy sa 248 (mS σ)] sz) := by
  refine mt_of (cc := cX8_hoursOn) (maxL := 5) (ret := (some .int)) (by decide +kernel) (Nat.le_of_ble_eq_true rfl) ?_
  intro pX eX s mX below meth cX ls A hx hb hr hml hown hts hlk hin hsz hAe hA hP hD hK hX hl
  subst hsz
  rw [← hAe]
  clear hAe
  have hl : lv_has ls 5 [(0, .ref sa), (1, .int (nI n9))] := hl
  have hS : va_S A s.heap s.heap [] := va_S.rf
  have hn0 := hwf.n0
  have hn1 := hwf.n1
  have hh2 := hwf.h2
  have hlst : ∀ d, d < σ 0 → dg σ d 3 ≤ σ 2 := fun d hd => (hwf.db hd).2.2.2.2.1
  refine lv_aload_n hx hb dX8_hoursOn_0 rfl (lv_at hl 0 rfl) ?_
  refine lv_iconst (v := (nI 3)) hx hb dX8_hoursOn_1 (by decide) ?_
  refine va_iald hx hb hK hP 0 0 rfl rfl (vp_in_nI (n := 3) (by omega) (by omega)) dX8_hoursOn_2 ?_
  refine ti (show (mS σ) (nI 3).toNatClampNeg = nI (σ 3) from by rw [nI_clamp (by omega)]; rfl) ?_
  refine lv_istore_n (lv' := [(2, .int (nI (σ 3))), (0, .ref sa), (1, .int (nI n9))]) hx hb dX8_hoursOn_3 rfl hl (by decide) rfl (fun ls hl => ?_)
  refine lv_iconst (v := (nI 0)) hx hb dX8_hoursOn_4 (by decide) ?_
  refine lv_istore_n (lv' := [(3, .int (nI 0)), (2, .int (nI (σ 3))), (0, .ref sa), (1, .int (nI n9))]) hx hb dX8_hoursOn_5 rfl hl (by decide) rfl (fun ls hl => ?_)
  rw [show (mS σ) = (mS (hoS σ 0)) from (congrArg mS hoS_0.symm)] at hP hD
  refine lp_rule (σ := (Nat)) (fun x9 H9 locs9 ls9 => va_P g vwCl [aI cy sa 248 (mS (hoS σ x9))] H9 ∧ va_D A [aI cy sa 248 (mS (hoS σ x9))] ∧ va_S A s.heap H9 locs9 ∧ lv_has ls9 5 [(0, .ref sa), (1, .int (nI n9)), (2, .int (nI (σ 3))), (3, .int (nI x9))] ∧ (x9 ≤ n9)) (fun x9 => n9 - x9) (0) ⟨hP, hD, hS, lv_sub hl [2, 3, 1, 0] rfl, (by omega)⟩ ?_
  rintro h H locs ls ⟨hP, hD, hS, hl, hh9⟩ ih6
  try dsimp only at hl hh9 hP hD ih6
  refine lv_iload_n hx hb dX8_hoursOn_6 rfl (lv_at hl 3 rfl) ?_
  refine lv_iload_n hx hb dX8_hoursOn_7 rfl (lv_at hl 1 rfl) ?_
  refine lv_icmp_ge (tgt := 96) hx hb dX8_hoursOn_8 (by decide) (fun c_8 => ?_) (fun c_8 => ?_)
  · have c_8 := (nc_le (by omega) (by omega) c_8)
    have e9 : h = n9 := by omega
    rw [show (mS (hoS σ h)) = (mS (hoS σ n9)) from (by rw [e9])] at hP hD
    refine lv_aload_n hx hb dX8_hoursOn_96 rfl (lv_at hl 0 rfl) ?_
    refine lv_iconst (v := (nI 3)) hx hb dX8_hoursOn_97 (by decide) ?_
    refine va_iald hx hb hK hP 0 0 rfl rfl (vp_in_nI (n := 3) (by omega) (by omega)) dX8_hoursOn_98 ?_
    refine ti (show (mS (hoS σ n9)) (nI 3).toNatClampNeg = nI ((hoS σ n9) 3) from by rw [nI_clamp (by omega)]; rfl) ?_
    refine ti (show (nI ((hoS σ n9) 3)) = (nI (σ 3 + sm (gro σ n9) (σ 0))) from rfl) ?_
    refine lv_iload_n hx hb dX8_hoursOn_99 rfl (lv_at hl 2 rfl) ?_
    refine lv_isub hx hb dX8_hoursOn_100 ?_
    refine ti (show ((nI (σ 3 + sm (gro σ n9) (σ 0))) - (nI (σ 3))) = (nI (sm (gro σ n9) (σ 0))) from (by rw [pk_sub (Nat.le_add_right _ _), Nat.add_sub_cancel_left])) ?_
    exact wr_i () rfl trivial hP hS hx hb hr dX8_hoursOn_101 hlk
  · have c_8 := (nc_nle (by omega) (by omega) c_8)
    refine lv_aload_n hx hb dX8_hoursOn_11 rfl (lv_at hl 0 rfl) ?_
    refine lv_iconst (v := (nI 2)) hx hb dX8_hoursOn_12 (by decide) ?_
    refine lv_dup2_11 hx hb dX8_hoursOn_13 rfl rfl ?_
    refine va_iald hx hb hK hP 0 0 rfl rfl (vp_in_nI (n := 2) (by omega) (by omega)) dX8_hoursOn_14 ?_
    refine ti (show (mS (hoS σ h)) (nI 2).toNatClampNeg = nI ((hoS σ h) 2) from by rw [nI_clamp (by omega)]; rfl) ?_
    refine ti (show (nI ((hoS σ h) 2)) = (nI (σ 2 + h)) from rfl) ?_
    refine lv_iconst (v := (nI 1)) hx hb dX8_hoursOn_15 (by decide) ?_
    refine lv_iadd hx hb dX8_hoursOn_16 ?_
    refine ti (nI_add (σ 2 + h) 1) ?_
    refine va_iast hx hb hK hP hD hS 0 0 rfl rfl (vp_in_nI (n := 2) (by omega) (by omega)) dX8_hoursOn_17 (fun H locs hP hD hS => ?_)
    rw [nI_clamp (n := 2) (by omega)] at hP hD
    rw [mS_up] at hP hD
    have hP : va_P g vwCl [aI cy sa 248 (mS (up (hoS σ h) 2 ((σ 2 + h) + 1)))] H := hP
    have hD : va_D A [aI cy sa 248 (mS (up (hoS σ h) 2 ((σ 2 + h) + 1)))] := hD
    rw [show mS (up (hoS σ h) 2 ((σ 2 + h) + 1)) = (mS (hoM σ h 0)) from (congrArg mS hoM_0)] at hP hD
    refine lv_iconst (v := (nI 0)) hx hb dX8_hoursOn_18 (by decide) ?_
    refine lv_istore (lv' := [(4, .int (nI 0)), (0, .ref sa), (1, .int (nI n9)), (2, .int (nI (σ 3))), (3, .int (nI h))]) hx hb dX8_hoursOn_19 hl (by decide) rfl (fun ls hl => ?_)
    refine lp_rule (σ := (Nat)) (fun x9 H9 locs9 ls9 => va_P g vwCl [aI cy sa 248 (mS (hoM σ h x9))] H9 ∧ va_D A [aI cy sa 248 (mS (hoM σ h x9))] ∧ va_S A s.heap H9 locs9 ∧ lv_has ls9 5 [(0, .ref sa), (1, .int (nI n9)), (2, .int (nI (σ 3))), (3, .int (nI h)), (4, .int (nI x9))] ∧ (x9 ≤ σ 0)) (fun x9 => σ 0 - x9) (0) ⟨hP, hD, hS, lv_sub hl [1, 2, 3, 4, 0] rfl, (by omega)⟩ ?_
    rintro j H locs ls ⟨hP, hD, hS, hl, hj⟩ ih21
    try dsimp only at hl hj hP hD ih21
    refine lv_iload hx hb dX8_hoursOn_21 (lv_at hl 4 rfl) ?_
    refine lv_aload_n hx hb dX8_hoursOn_23 rfl (lv_at hl 0 rfl) ?_
    refine lv_iconst (v := (nI 0)) hx hb dX8_hoursOn_24 (by decide) ?_
    refine va_iald hx hb hK hP 0 0 rfl rfl (vp_in_nI (n := 0) (by omega) (by omega)) dX8_hoursOn_25 ?_
    refine ti (show (mS (hoM σ h j)) (nI 0).toNatClampNeg = nI ((hoM σ h j) 0) from by rw [nI_clamp (by omega)]; rfl) ?_
    refine ti (show (nI ((hoM σ h j) 0)) = (nI (σ 0)) from rfl) ?_
    refine lv_icmp_ge (tgt := 90) hx hb dX8_hoursOn_26 (by decide) (fun c_26 => ?_) (fun c_26 => ?_)
    · have c_26 := (nc_le (by omega) (by omega) c_26)
      rw [show (mS (hoM σ h j)) = (mS (hoS σ (h + 1))) from (congrArg mS (by rw [show j = σ 0 by omega]; exact hoM_n hlst))] at hP hD
      refine lv_iinc (v := (nI (h + 1))) (lv' := [(3, .int (nI (h + 1))), (0, .ref sa), (1, .int (nI n9)), (2, .int (nI (σ 3))), (4, .int (nI j))]) hx hb dX8_hoursOn_90 hl (k := 3) rfl (nI_add h 1) (by decide) rfl (fun ls hl => ?_)
      refine lv_goto (tgt := 6) hx hb dX8_hoursOn_93 (by decide) ?_
      exact ih6 (h + 1) H locs ls ⟨hP, hD, hS, lv_sub hl [1, 2, 3, 0] rfl, (by omega)⟩ (by first | omega | (dsimp only; omega))
    · have c_26 := (nc_nle (by omega) (by omega) c_26)
      have hdb := hwf.db (show j < σ 0 by omega)
      refine lv_aload_n hx hb dX8_hoursOn_29 rfl (lv_at hl 0 rfl) ?_
      refine lv_iload hx hb dX8_hoursOn_30 (lv_at hl 4 rfl) ?_
      refine rd_call (va_runS (As := [.ref sa, .int (nI j)]) (rest := []) ⟨hx, hb, hml, hown, hts⟩ (c_X8_isMissing l g cy sa H.size (hoM σ h j) j (by omega) (by rw [hoM_dg (by omega) (by decide) (by decide)]; omega)) ⟨(cB 2 hts wd12_20 wd1_5 wd12_18 rfl rfl (by decide +kernel) ⟨Nat.le_of_ble_eq_true rfl, Nat.le_of_ble_eq_true rfl⟩), hts _ wd12_19⟩ (ps hK hP hD hS hA hX [0] rfl rfl) rfl rfl hl.1 rfl (lv_room (Nat.le_of_ble_eq_true rfl)) dX8_hoursOn_32 ⟨Nat.zero_le _, Nat.zero_le _⟩) ?_
      show W _ _ _ _ _ _ _ _ _ _ _ _ _ _ _ (F0 mX 35 ls [.int (bI (msg (hoM σ h j) j))])
      refine ti (show (bI (msg (hoM σ h j) j)) = (bI (msg σ j)) from (congrArg bI (hoM_msg (by omega)))) ?_
      refine lv_if_eq (tgt := 84) hx hb dX8_hoursOn_35 (by decide) (fun c_35 => ?_) (fun c_35 => ?_)
      · have c_35 := (bI_eq0.mp c_35)
        rw [show (mS (hoM σ h j)) = (mS (hoM σ h (j + 1))) from (congrArg mS (hoM_no (by simp [inc, c_35])))] at hP hD
        refine lv_iinc (v := (nI (j + 1))) (lv' := [(4, .int (nI (j + 1))), (0, .ref sa), (1, .int (nI n9)), (2, .int (nI (σ 3))), (3, .int (nI h))]) hx hb dX8_hoursOn_84 hl (k := 4) rfl (nI_add j 1) (by decide) rfl (fun ls hl => ?_)
        refine lv_goto (tgt := 21) hx hb dX8_hoursOn_87 (by decide) ?_
        exact ih21 (j + 1) H locs ls ⟨hP, hD, hS, lv_sub hl [1, 2, 3, 4, 0] rfl, (by omega)⟩ (by first | omega | (dsimp only; omega))
      · have c_35 := (bI_ne0.mp c_35)
        refine lv_aload_n hx hb dX8_hoursOn_38 rfl (lv_at hl 0 rfl) ?_
        refine lv_iconst (v := (nI 2)) hx hb dX8_hoursOn_39 (by decide) ?_
        refine va_iald hx hb hK hP 0 0 rfl rfl (vp_in_nI (n := 2) (by omega) (by omega)) dX8_hoursOn_40 ?_
        refine ti (show (mS (hoM σ h j)) (nI 2).toNatClampNeg = nI ((hoM σ h j) 2) from by rw [nI_clamp (by omega)]; rfl) ?_
        refine ti (show (nI ((hoM σ h j) 2)) = (nI (σ 2 + (h + 1))) from rfl) ?_
        refine lv_aload_n hx hb dX8_hoursOn_41 rfl (lv_at hl 0 rfl) ?_
        refine lv_iload hx hb dX8_hoursOn_42 (lv_at hl 4 rfl) ?_
        refine lv_iconst (v := (nI 3)) hx hb dX8_hoursOn_44 (by decide) ?_
        refine rd_call (va_runS (As := [.ref sa, .int (nI j), .int (nI 3)]) (rest := [.int (nI (σ 2 + (h + 1)))]) ⟨hx, hb, hml, hown, hts⟩ (c_X8_ofDog l g cy sa H.size (hoM σ h j) j 3 (by omega) (by omega)) ⟨(cB 3 hts wd12_23 wd1_5 wd12_21 rfl rfl (by decide +kernel) ⟨Nat.le_of_ble_eq_true rfl, Nat.le_of_ble_eq_true rfl⟩), hts _ wd12_22⟩ (ps hK hP hD hS hA hX [0] rfl rfl) rfl rfl hl.1 rfl (lv_room (Nat.le_of_ble_eq_true rfl)) dX8_hoursOn_45 ⟨Nat.zero_le _, Nat.zero_le _⟩) ?_
        show W _ _ _ _ _ _ _ _ _ _ _ _ _ _ _ (F0 mX 48 ls [.int (nI (dg (hoM σ h j) j 3)), .int (nI (σ 2 + (h + 1)))])
        refine ti (show (nI (dg (hoM σ h j) j 3)) = (nI (dg σ j 3)) from (congrArg nI (hoM_dg (by omega) (by decide) (by decide)))) ?_
        refine lv_isub hx hb dX8_hoursOn_48 ?_
        refine ti (show ((nI (σ 2 + (h + 1))) - (nI (dg σ j 3))) = (nI (σ 2 + (h + 1) - dg σ j 3)) from (pk_sub (by omega))) ?_
        refine lv_bipush (v := (nI 24)) hx hb dX8_hoursOn_49 (by decide) ?_
        refine lv_irem hx hb dX8_hoursOn_51 (nI_ne0 (by omega) (by omega)) ?_
        refine ti (pk_rem (a := (σ 2 + (h + 1) - dg σ j 3)) (d := 24) (by omega) (by omega) (by omega)) ?_
        refine lv_if_ne (tgt := 84) hx hb dX8_hoursOn_52 (by decide) (fun c_52 => ?_) (fun c_52 => ?_)
        · have c_52 := (nz_ne c_52 (by omega))
          rw [show (mS (hoM σ h j)) = (mS (hoM σ h (j + 1))) from (congrArg mS (hoM_no (by simp [inc, c_35, c_52])))] at hP hD
          refine lv_iinc (v := (nI (j + 1))) (lv' := [(4, .int (nI (j + 1))), (0, .ref sa), (1, .int (nI n9)), (2, .int (nI (σ 3))), (3, .int (nI h))]) hx hb dX8_hoursOn_84 hl (k := 4) rfl (nI_add j 1) (by decide) rfl (fun ls hl => ?_)
          refine lv_goto (tgt := 21) hx hb dX8_hoursOn_87 (by decide) ?_
          exact ih21 (j + 1) H locs ls ⟨hP, hD, hS, lv_sub hl [1, 2, 3, 4, 0] rfl, (by omega)⟩ (by first | omega | (dsimp only; omega))
        · have c_52 := (nz_eq c_52 (by omega))
          refine lv_aload_n hx hb dX8_hoursOn_55 rfl (lv_at hl 0 rfl) ?_
          refine lv_bipush (v := (nI 40)) hx hb dX8_hoursOn_56 (by decide) ?_
          refine lv_bipush (v := (nI 8)) hx hb dX8_hoursOn_58 (by decide) ?_
          refine lv_iload hx hb dX8_hoursOn_60 (lv_at hl 4 rfl) ?_
          refine lv_imul hx hb dX8_hoursOn_62 ?_
          refine ti (pk_mul 8 j) ?_
          refine lv_iadd hx hb dX8_hoursOn_63 ?_
          refine ti (nI_add 40 (8 * j)) ?_
          refine lv_iconst (v := (nI 4)) hx hb dX8_hoursOn_64 (by decide) ?_
          refine lv_iadd hx hb dX8_hoursOn_65 ?_
          refine ti (nI_add (40 + (8 * j)) 4) ?_
          refine lv_dup2_11 hx hb dX8_hoursOn_66 rfl rfl ?_
          refine va_iald hx hb hK hP 0 0 rfl rfl (vp_in_nI (n := ((40 + (8 * j)) + 4)) (by omega) (by omega)) dX8_hoursOn_67 ?_
          refine ti (show (mS (hoM σ h j)) (nI ((40 + (8 * j)) + 4)).toNatClampNeg = nI ((hoM σ h j) ((40 + (8 * j)) + 4)) from by rw [nI_clamp (by omega)]; rfl) ?_
          refine lv_aload_n hx hb dX8_hoursOn_68 rfl (lv_at hl 0 rfl) ?_
          refine lv_bipush (v := (nI 6)) hx hb dX8_hoursOn_69 (by decide) ?_
          refine va_iald hx hb hK hP 0 0 rfl rfl (vp_in_nI (n := 6) (by omega) (by omega)) dX8_hoursOn_71 ?_
          refine ti (show (mS (hoM σ h j)) (nI 6).toNatClampNeg = nI ((hoM σ h j) 6) from by rw [nI_clamp (by omega)]; rfl) ?_
          refine ti (show (nI ((hoM σ h j) 6)) = (nI (inc σ h j)) from (congrArg nI (show σ 6 = inc σ h j from (if_pos (by simp [c_35, c_52])).symm))) ?_
          refine lv_iadd hx hb dX8_hoursOn_72 ?_
          refine ti (nI_add ((hoM σ h j) ((40 + (8 * j)) + 4)) (inc σ h j)) ?_
          refine va_iast hx hb hK hP hD hS 0 0 rfl rfl (vp_in_nI (n := ((40 + (8 * j)) + 4)) (by omega) (by omega)) dX8_hoursOn_73 (fun H locs hP hD hS => ?_)
          rw [nI_clamp (n := ((40 + (8 * j)) + 4)) (by omega)] at hP hD
          rw [mS_up] at hP hD
          have hP : va_P g vwCl [aI cy sa 248 (mS (up (hoM σ h j) ((40 + (8 * j)) + 4) (((hoM σ h j) ((40 + (8 * j)) + 4)) + (inc σ h j))))] H := hP
          have hD : va_D A [aI cy sa 248 (mS (up (hoM σ h j) ((40 + (8 * j)) + 4) (((hoM σ h j) ((40 + (8 * j)) + 4)) + (inc σ h j))))] := hD
          refine lv_aload_n hx hb dX8_hoursOn_74 rfl (lv_at hl 0 rfl) ?_
          refine lv_iconst (v := (nI 3)) hx hb dX8_hoursOn_75 (by decide) ?_
          refine lv_dup2_11 hx hb dX8_hoursOn_76 rfl rfl ?_
          refine va_iald hx hb hK hP 0 0 rfl rfl (vp_in_nI (n := 3) (by omega) (by omega)) dX8_hoursOn_77 ?_
          refine ti (show (mS (up (hoM σ h j) ((40 + (8 * j)) + 4) (((hoM σ h j) ((40 + (8 * j)) + 4)) + (inc σ h j)))) (nI 3).toNatClampNeg = nI ((up (hoM σ h j) ((40 + (8 * j)) + 4) (((hoM σ h j) ((40 + (8 * j)) + 4)) + (inc σ h j))) 3) from by rw [nI_clamp (by omega)]; rfl) ?_
          refine ti (show (nI ((up (hoM σ h j) ((40 + (8 * j)) + 4) (((hoM σ h j) ((40 + (8 * j)) + 4)) + (inc σ h j))) 3)) = (nI (hoM σ h j 3)) from (congrArg nI (by rw [up_n (by omega)]))) ?_
          refine lv_aload_n hx hb dX8_hoursOn_78 rfl (lv_at hl 0 rfl) ?_
          refine lv_bipush (v := (nI 6)) hx hb dX8_hoursOn_79 (by decide) ?_
          refine va_iald hx hb hK hP 0 0 rfl rfl (vp_in_nI (n := 6) (by omega) (by omega)) dX8_hoursOn_81 ?_
          refine ti (show (mS (up (hoM σ h j) ((40 + (8 * j)) + 4) (((hoM σ h j) ((40 + (8 * j)) + 4)) + (inc σ h j)))) (nI 6).toNatClampNeg = nI ((up (hoM σ h j) ((40 + (8 * j)) + 4) (((hoM σ h j) ((40 + (8 * j)) + 4)) + (inc σ h j))) 6) from by rw [nI_clamp (by omega)]; rfl) ?_
          refine ti (show (nI ((up (hoM σ h j) ((40 + (8 * j)) + 4) (((hoM σ h j) ((40 + (8 * j)) + 4)) + (inc σ h j))) 6)) = (nI (inc σ h j)) from (congrArg nI (by rw [up_n (by omega)]; exact (show σ 6 = inc σ h j from (if_pos (by simp [c_35, c_52])).symm)))) ?_
          refine lv_iadd hx hb dX8_hoursOn_82 ?_
          refine ti (nI_add (hoM σ h j 3) (inc σ h j)) ?_
          refine va_iast hx hb hK hP hD hS 0 0 rfl rfl (vp_in_nI (n := 3) (by omega) (by omega)) dX8_hoursOn_83 (fun H locs hP hD hS => ?_)
          rw [nI_clamp (n := 3) (by omega)] at hP hD
          rw [mS_up] at hP hD
          have hP : va_P g vwCl [aI cy sa 248 (mS (up (up (hoM σ h j) ((40 + (8 * j)) + 4) (((hoM σ h j) ((40 + (8 * j)) + 4)) + (inc σ h j))) 3 ((hoM σ h j 3) + (inc σ h j))))] H := hP
          have hD : va_D A [aI cy sa 248 (mS (up (up (hoM σ h j) ((40 + (8 * j)) + 4) (((hoM σ h j) ((40 + (8 * j)) + 4)) + (inc σ h j))) 3 ((hoM σ h j 3) + (inc σ h j))))] := hD
          rw [show mS (up (up (hoM σ h j) ((40 + (8 * j)) + 4) (((hoM σ h j) ((40 + (8 * j)) + 4)) + (inc σ h j))) 3 ((hoM σ h j 3) + (inc σ h j))) = (mS (hoM σ h (j + 1))) from (congrArg mS (hoM_s (by omega) hn0))] at hP hD
          refine lv_iinc (v := (nI (j + 1))) (lv' := [(4, .int (nI (j + 1))), (0, .ref sa), (1, .int (nI n9)), (2, .int (nI (σ 3))), (3, .int (nI h))]) hx hb dX8_hoursOn_84 hl (k := 4) rfl (nI_add j 1) (by decide) rfl (fun ls hl => ?_)
          refine lv_goto (tgt := 21) hx hb dX8_hoursOn_87 (by decide) ?_
          exact ih21 (j + 1) H locs ls ⟨hP, hD, hS, lv_sub hl [1, 2, 3, 4, 0] rfl, (by omega)⟩ (by first | omega | (dsimp only; omega))
set_option maxHeartbeats 4000000 in
set_option maxRecDepth 100000 in
theorem c_X8_change (l : Launch) (g : va_G) (cy : Nat → ClassId) (sa : Nat) (sz : Nat) (σ : Nat → Nat) (w9 : Nat) (v9 : Nat) (hw9 : w9 ≤ 1) : Met l yX8_change (Cond.code yX8_change cX8_change 4 (some .int) :: wsL_law) ({ frames := 0, cells := 0, slots := 0, locals := 0 } : Room) (va_Pc [.ref sa, .int (nI w9), .int (nI v9)] (pr g cy [aI cy sa 248 (mS σ)] sz)) (wr_Q (fun _ : Unit => (some (.int (nI (σ (6 + w9)))))) (fun _ : Unit => True) (fun _ : Unit => [aI cy sa 248 (mS (up σ (6 + w9) v9))]) g (va_A [aI cy sa 248 (mS σ)] sz)) 0 0 (va_A [aI cy sa 248 (mS σ)] sz) := by
  refine mt_of (cc := cX8_change) (maxL := 4) (ret := (some .int)) (by decide +kernel) (Nat.le_of_ble_eq_true rfl) ?_
  intro pX eX s mX below meth cX ls A hx hb hr hml hown hts hlk hin hsz hAe hA hP hD hK hX hl
  subst hsz
  rw [← hAe]
  clear hAe
  have hl : lv_has ls 4 [(0, .ref sa), (1, .int (nI w9)), (2, .int (nI v9))] := hl
  have hS : va_S A s.heap s.heap [] := va_S.rf
  refine lv_aload_n hx hb dX8_change_0 rfl (lv_at hl 0 rfl) ?_
  refine lv_bipush (v := (nI 6)) hx hb dX8_change_1 (by decide) ?_
  refine lv_iload_n hx hb dX8_change_3 rfl (lv_at hl 1 rfl) ?_
  refine lv_iadd hx hb dX8_change_4 ?_
  refine ti (nI_add 6 w9) ?_
  refine va_iald hx hb hK hP 0 0 rfl rfl (vp_in_nI (n := (6 + w9)) (by omega) (by omega)) dX8_change_5 ?_
  refine ti (show (mS σ) (nI (6 + w9)).toNatClampNeg = nI (σ (6 + w9)) from by rw [nI_clamp (by omega)]; rfl) ?_
  refine lv_istore_n (lv' := [(3, .int (nI (σ (6 + w9)))), (0, .ref sa), (1, .int (nI w9)), (2, .int (nI v9))]) hx hb dX8_change_6 rfl hl (by decide) rfl (fun ls hl => ?_)
  refine lv_aload_n hx hb dX8_change_7 rfl (lv_at hl 1 rfl) ?_
  refine lv_bipush (v := (nI 6)) hx hb dX8_change_8 (by decide) ?_
  refine lv_iload_n hx hb dX8_change_10 rfl (lv_at hl 2 rfl) ?_
  refine lv_iadd hx hb dX8_change_11 ?_
  refine ti (nI_add 6 w9) ?_
  refine lv_iload_n hx hb dX8_change_12 rfl (lv_at hl 3 rfl) ?_
  refine va_iast hx hb hK hP hD hS 0 0 rfl rfl (vp_in_nI (n := (6 + w9)) (by omega) (by omega)) dX8_change_13 (fun H locs hP hD hS => ?_)
  rw [nI_clamp (n := (6 + w9)) (by omega)] at hP hD
  rw [mS_up] at hP hD
  have hP : va_P g vwCl [aI cy sa 248 (mS (up σ (6 + w9) v9))] H := hP
  have hD : va_D A [aI cy sa 248 (mS (up σ (6 + w9) v9))] := hD
  refine lv_iload_n hx hb dX8_change_14 rfl (lv_at hl 0 rfl) ?_
  exact wr_i () rfl trivial hP hS hx hb hr dX8_change_15 hlk
set_option maxHeartbeats 4000000 in
set_option maxRecDepth 100000 in
theorem c_X8_missing (l : Launch) (g : va_G) (cy : Nat → ClassId) (sa : Nat) (sz : Nat) (σ : Nat → Nat) (bd : Nat) (hwf : WF bd σ) : Met l yX8_missing (Cond.code yX8_missing cX8_missing 3 (some .int) :: wsL_law) ({ frames := 2, cells := 0, slots := 0, locals := 43 } : Room) (va_Pc [.ref sa] (pr g cy [aI cy sa 248 (mS σ)] sz)) (rd_Q (some (.int (nI (ct (msg σ) (σ 0)))))) 0 0 (nF) := by
  refine mt_of (cc := cX8_missing) (maxL := 3) (ret := (some .int)) (by decide +kernel) (Nat.le_of_ble_eq_true rfl) ?_
  intro pX eX s mX below meth cX ls A hx hb hr hml hown hts hlk hin hsz hAe hA hP hD hK hX hl
  have hl : lv_has ls 3 [(0, .ref sa)] := hl
  have hS : va_S A s.heap s.heap [] := va_S.rf
  have hn0 := hwf.n0
  have hn1 := hwf.n1
  have hh2 := hwf.h2
  refine lv_iconst (v := (nI 0)) hx hb dX8_missing_0 (by decide) ?_
  refine lv_istore_n (lv' := [(1, .int (nI 0)), (0, .ref sa)]) hx hb dX8_missing_1 rfl hl (by decide) rfl (fun ls hl => ?_)
  refine lv_iconst (v := (nI 0)) hx hb dX8_missing_2 (by decide) ?_
  refine lv_istore_n (lv' := [(2, .int (nI 0)), (1, .int (nI 0)), (0, .ref sa)]) hx hb dX8_missing_3 rfl hl (by decide) rfl (fun ls hl => ?_)
  have hl : lv_has ls 3 [(2, .int (nI 0)), (1, .int (nI (ct (msg σ) 0))), (0, .ref sa)] := by rw [← show (nI 0) = (nI (ct (msg σ) 0)) from rfl]; exact hl
  refine lp_rd (σ := (Nat)) (fun x9 ls9 => lv_has ls9 3 [(0, .ref sa), (1, .int (nI (ct (msg σ) x9))), (2, .int (nI x9))] ∧ (x9 ≤ σ 0)) (fun x9 => σ 0 - x9) (0) ⟨lv_sub hl [2, 1, 0] rfl, (by omega)⟩ ?_
  rintro i ls ⟨hl, hi⟩ ih4
  try dsimp only at hl hi ih4
  refine lv_iload_n hx hb dX8_missing_4 rfl (lv_at hl 2 rfl) ?_
  refine lv_aload_n hx hb dX8_missing_5 rfl (lv_at hl 0 rfl) ?_
  refine lv_iconst (v := (nI 0)) hx hb dX8_missing_6 (by decide) ?_
  refine va_iald hx hb hK hP 0 0 rfl rfl (vp_in_nI (n := 0) (by omega) (by omega)) dX8_missing_7 ?_
  refine ti (show (mS σ) (nI 0).toNatClampNeg = nI (σ 0) from by rw [nI_clamp (by omega)]; rfl) ?_
  refine lv_icmp_ge (tgt := 33) hx hb dX8_missing_8 (by decide) (fun c_8 => ?_) (fun c_8 => ?_)
  · have c_8 := (nc_le (by omega) (by omega) c_8)
    have e9 : i = σ 0 := by omega
    subst e9
    refine lv_iload_n hx hb dX8_missing_33 rfl (lv_at hl 1 rfl) ?_
    exact rd_i rfl hx hb hr dX8_missing_34 hlk
  · have c_8 := (nc_nle (by omega) (by omega) c_8)
    have hdb := hwf.db (show i < σ 0 by omega)
    refine lv_iload_n hx hb dX8_missing_11 rfl (lv_at hl 1 rfl) ?_
    refine lv_aload_n hx hb dX8_missing_12 rfl (lv_at hl 0 rfl) ?_
    refine lv_iload_n hx hb dX8_missing_13 rfl (lv_at hl 2 rfl) ?_
    refine rd_call (va_runS (As := [.ref sa, .int (nI i)]) (rest := [.int (nI (ct (msg σ) i))]) ⟨hx, hb, hml, hown, hts⟩ (c_X8_isMissing l g cy sa s.heap.size σ i (by omega) (by omega)) ⟨(cB 2 hts wd12_20 wd1_5 wd12_18 rfl rfl (by decide +kernel) ⟨Nat.le_of_ble_eq_true rfl, Nat.le_of_ble_eq_true rfl⟩), hts _ wd12_19⟩ (ps hK hP hD hS hA hX [0] rfl rfl) rfl rfl hl.1 rfl (lv_room (Nat.le_of_ble_eq_true rfl)) dX8_missing_14 ⟨Nat.zero_le _, Nat.zero_le _⟩) ?_
    show W _ _ _ _ _ _ _ _ _ _ _ _ _ _ _ (F0 mX 17 ls [.int (bI (msg σ i)), .int (nI (ct (msg σ) i))])
    refine lv_if_eq (tgt := 24) hx hb dX8_missing_17 (by decide) (fun c_17 => ?_) (fun c_17 => ?_)
    · have c_17 := (bI_eq0.mp c_17)
      refine lv_iconst (v := (nI 0)) hx hb dX8_missing_24 (by decide) ?_
      refine lv_iadd hx hb dX8_missing_25 ?_
      refine ti (nI_add (ct (msg σ) i) 0) ?_
      refine lv_istore_n (lv' := [(1, .int (nI ((ct (msg σ) i) + 0))), (0, .ref sa), (2, .int (nI i))]) hx hb dX8_missing_26 rfl hl (by decide) rfl (fun ls hl => ?_)
      have hl : lv_has ls 3 [(1, .int (nI (ct (msg σ) (i + 1)))), (0, .ref sa), (2, .int (nI i))] := by rw [← show (nI ((ct (msg σ) i) + 0)) = (nI (ct (msg σ) (i + 1))) from (congrArg nI (by simp [ct, c_17]))]; exact hl
      refine lv_iinc (v := (nI (i + 1))) (lv' := [(2, .int (nI (i + 1))), (1, .int (nI (ct (msg σ) (i + 1)))), (0, .ref sa)]) hx hb dX8_missing_27 hl (k := 2) rfl (nI_add i 1) (by decide) rfl (fun ls hl => ?_)
      refine lv_goto (tgt := 4) hx hb dX8_missing_30 (by decide) ?_
      exact ih4 (i + 1) ls ⟨lv_sub hl [2, 1, 0] rfl, (by omega)⟩ (by first | omega | (dsimp only; omega))
    · have c_17 := (bI_ne0.mp c_17)
      refine lv_iconst (v := (nI 1)) hx hb dX8_missing_20 (by decide) ?_
      refine lv_goto (tgt := 25) hx hb dX8_missing_21 (by decide) ?_
      refine lv_iadd hx hb dX8_missing_25 ?_
      refine ti (nI_add (ct (msg σ) i) 1) ?_
      refine lv_istore_n (lv' := [(1, .int (nI ((ct (msg σ) i) + 1))), (0, .ref sa), (2, .int (nI i))]) hx hb dX8_missing_26 rfl hl (by decide) rfl (fun ls hl => ?_)
      have hl : lv_has ls 3 [(1, .int (nI (ct (msg σ) (i + 1)))), (0, .ref sa), (2, .int (nI i))] := by rw [← show (nI ((ct (msg σ) i) + 1)) = (nI (ct (msg σ) (i + 1))) from (congrArg nI (by simp [ct, c_17]))]; exact hl
      refine lv_iinc (v := (nI (i + 1))) (lv' := [(2, .int (nI (i + 1))), (1, .int (nI (ct (msg σ) (i + 1)))), (0, .ref sa)]) hx hb dX8_missing_27 hl (k := 2) rfl (nI_add i 1) (by decide) rfl (fun ls hl => ?_)
      refine lv_goto (tgt := 4) hx hb dX8_missing_30 (by decide) ?_
      exact ih4 (i + 1) ls ⟨lv_sub hl [2, 1, 0] rfl, (by omega)⟩ (by first | omega | (dsimp only; omega))
set_option maxHeartbeats 4000000 in
set_option maxRecDepth 100000 in
theorem c_X8_rewards (l : Launch) (g : va_G) (cy : Nat → ClassId) (sa : Nat) (sz : Nat) (σ : Nat → Nat) (bd : Nat) (hwf : WF bd σ) : Met l yX8_rewards (Cond.code yX8_rewards cX8_rewards 3 (some .int) :: wsL_law) ({ frames := 2, cells := 0, slots := 0, locals := 43 } : Room) (va_Pc [.ref sa] (pr g cy [aI cy sa 248 (mS σ)] sz)) (rd_Q (some (.int (nI (sm (fun d => if msg σ d then dg σ d 4 else 0) (σ 0)))))) 0 0 (nF) := by
  refine mt_of (cc := cX8_rewards) (maxL := 3) (ret := (some .int)) (by decide +kernel) (Nat.le_of_ble_eq_true rfl) ?_
  intro pX eX s mX below meth cX ls A hx hb hr hml hown hts hlk hin hsz hAe hA hP hD hK hX hl
  have hl : lv_has ls 3 [(0, .ref sa)] := hl
  have hS : va_S A s.heap s.heap [] := va_S.rf
  have hn0 := hwf.n0
  have hn1 := hwf.n1
  have hh2 := hwf.h2
  refine lv_iconst (v := (nI 0)) hx hb dX8_rewards_0 (by decide) ?_
  refine lv_istore_n (lv' := [(1, .int (nI 0)), (0, .ref sa)]) hx hb dX8_rewards_1 rfl hl (by decide) rfl (fun ls hl => ?_)
  refine lv_iconst (v := (nI 0)) hx hb dX8_rewards_2 (by decide) ?_
  refine lv_istore_n (lv' := [(2, .int (nI 0)), (1, .int (nI 0)), (0, .ref sa)]) hx hb dX8_rewards_3 rfl hl (by decide) rfl (fun ls hl => ?_)
  have hl : lv_has ls 3 [(2, .int (nI 0)), (1, .int (nI (sm (fun d => if msg σ d then dg σ d 4 else 0) 0))), (0, .ref sa)] := by rw [← show (nI 0) = (nI (sm (fun d => if msg σ d then dg σ d 4 else 0) 0)) from rfl]; exact hl
  refine lp_rd (σ := (Nat)) (fun x9 ls9 => lv_has ls9 3 [(0, .ref sa), (1, .int (nI (sm (fun d => if msg σ d then dg σ d 4 else 0) x9))), (2, .int (nI x9))] ∧ (x9 ≤ σ 0)) (fun x9 => σ 0 - x9) (0) ⟨lv_sub hl [2, 1, 0] rfl, (by omega)⟩ ?_
  rintro i ls ⟨hl, hi⟩ ih4
  try dsimp only at hl hi ih4
  refine lv_iload_n hx hb dX8_rewards_4 rfl (lv_at hl 2 rfl) ?_
  refine lv_aload_n hx hb dX8_rewards_5 rfl (lv_at hl 0 rfl) ?_
  refine lv_iconst (v := (nI 0)) hx hb dX8_rewards_6 (by decide) ?_
  refine va_iald hx hb hK hP 0 0 rfl rfl (vp_in_nI (n := 0) (by omega) (by omega)) dX8_rewards_7 ?_
  refine ti (show (mS σ) (nI 0).toNatClampNeg = nI (σ 0) from by rw [nI_clamp (by omega)]; rfl) ?_
  refine lv_icmp_ge (tgt := 38) hx hb dX8_rewards_8 (by decide) (fun c_8 => ?_) (fun c_8 => ?_)
  · have c_8 := (nc_le (by omega) (by omega) c_8)
    have e9 : i = σ 0 := by omega
    subst e9
    refine lv_iload_n hx hb dX8_rewards_38 rfl (lv_at hl 1 rfl) ?_
    exact rd_i rfl hx hb hr dX8_rewards_39 hlk
  · have c_8 := (nc_nle (by omega) (by omega) c_8)
    have hdb := hwf.db (show i < σ 0 by omega)
    refine lv_iload_n hx hb dX8_rewards_11 rfl (lv_at hl 1 rfl) ?_
    refine lv_aload_n hx hb dX8_rewards_12 rfl (lv_at hl 0 rfl) ?_
    refine lv_iload_n hx hb dX8_rewards_13 rfl (lv_at hl 2 rfl) ?_
    refine rd_call (va_runS (As := [.ref sa, .int (nI i)]) (rest := [.int (nI (sm (fun d => if msg σ d then dg σ d 4 else 0) i))]) ⟨hx, hb, hml, hown, hts⟩ (c_X8_isMissing l g cy sa s.heap.size σ i (by omega) (by omega)) ⟨(cB 2 hts wd12_20 wd1_5 wd12_18 rfl rfl (by decide +kernel) ⟨Nat.le_of_ble_eq_true rfl, Nat.le_of_ble_eq_true rfl⟩), hts _ wd12_19⟩ (ps hK hP hD hS hA hX [0] rfl rfl) rfl rfl hl.1 rfl (lv_room (Nat.le_of_ble_eq_true rfl)) dX8_rewards_14 ⟨Nat.zero_le _, Nat.zero_le _⟩) ?_
    show W _ _ _ _ _ _ _ _ _ _ _ _ _ _ _ (F0 mX 17 ls [.int (bI (msg σ i)), .int (nI (sm (fun d => if msg σ d then dg σ d 4 else 0) i))])
    refine lv_if_eq (tgt := 29) hx hb dX8_rewards_17 (by decide) (fun c_17 => ?_) (fun c_17 => ?_)
    · have c_17 := (bI_eq0.mp c_17)
      refine lv_iconst (v := (nI 0)) hx hb dX8_rewards_29 (by decide) ?_
      refine lv_iadd hx hb dX8_rewards_30 ?_
      refine ti (nI_add (sm (fun d => if msg σ d then dg σ d 4 else 0) i) 0) ?_
      refine lv_istore_n (lv' := [(1, .int (nI ((sm (fun d => if msg σ d then dg σ d 4 else 0) i) + 0))), (0, .ref sa), (2, .int (nI i))]) hx hb dX8_rewards_31 rfl hl (by decide) rfl (fun ls hl => ?_)
      have hl : lv_has ls 3 [(1, .int (nI (sm (fun d => if msg σ d then dg σ d 4 else 0) (i + 1)))), (0, .ref sa), (2, .int (nI i))] := by rw [← show (nI ((sm (fun d => if msg σ d then dg σ d 4 else 0) i) + 0)) = (nI (sm (fun d => if msg σ d then dg σ d 4 else 0) (i + 1))) from (congrArg nI (by simp [sm, c_17]))]; exact hl
      refine lv_iinc (v := (nI (i + 1))) (lv' := [(2, .int (nI (i + 1))), (1, .int (nI (sm (fun d => if msg σ d then dg σ d 4 else 0) (i + 1)))), (0, .ref sa)]) hx hb dX8_rewards_32 hl (k := 2) rfl (nI_add i 1) (by decide) rfl (fun ls hl => ?_)
      refine lv_goto (tgt := 4) hx hb dX8_rewards_35 (by decide) ?_
      exact ih4 (i + 1) ls ⟨lv_sub hl [2, 1, 0] rfl, (by omega)⟩ (by first | omega | (dsimp only; omega))
    · have c_17 := (bI_ne0.mp c_17)
      refine lv_aload_n hx hb dX8_rewards_20 rfl (lv_at hl 0 rfl) ?_
      refine lv_iload_n hx hb dX8_rewards_21 rfl (lv_at hl 2 rfl) ?_
      refine lv_iconst (v := (nI 4)) hx hb dX8_rewards_22 (by decide) ?_
      refine rd_call (va_runS (As := [.ref sa, .int (nI i), .int (nI 4)]) (rest := [.int (nI (sm (fun d => if msg σ d then dg σ d 4 else 0) i))]) ⟨hx, hb, hml, hown, hts⟩ (c_X8_ofDog l g cy sa s.heap.size σ i 4 (by omega) (by omega)) ⟨(cB 3 hts wd12_23 wd1_5 wd12_21 rfl rfl (by decide +kernel) ⟨Nat.le_of_ble_eq_true rfl, Nat.le_of_ble_eq_true rfl⟩), hts _ wd12_22⟩ (ps hK hP hD hS hA hX [0] rfl rfl) rfl rfl hl.1 rfl (lv_room (Nat.le_of_ble_eq_true rfl)) dX8_rewards_23 ⟨Nat.zero_le _, Nat.zero_le _⟩) ?_
      show W _ _ _ _ _ _ _ _ _ _ _ _ _ _ _ (F0 mX 26 ls [.int (nI (dg σ i 4)), .int (nI (sm (fun d => if msg σ d then dg σ d 4 else 0) i))])
      refine lv_goto (tgt := 30) hx hb dX8_rewards_26 (by decide) ?_
      refine lv_iadd hx hb dX8_rewards_30 ?_
      refine ti (nI_add (sm (fun d => if msg σ d then dg σ d 4 else 0) i) (dg σ i 4)) ?_
      refine lv_istore_n (lv' := [(1, .int (nI ((sm (fun d => if msg σ d then dg σ d 4 else 0) i) + (dg σ i 4)))), (0, .ref sa), (2, .int (nI i))]) hx hb dX8_rewards_31 rfl hl (by decide) rfl (fun ls hl => ?_)
      have hl : lv_has ls 3 [(1, .int (nI (sm (fun d => if msg σ d then dg σ d 4 else 0) (i + 1)))), (0, .ref sa), (2, .int (nI i))] := by rw [← show (nI ((sm (fun d => if msg σ d then dg σ d 4 else 0) i) + (dg σ i 4))) = (nI (sm (fun d => if msg σ d then dg σ d 4 else 0) (i + 1))) from (congrArg nI (by simp [sm, c_17]))]; exact hl
      refine lv_iinc (v := (nI (i + 1))) (lv' := [(2, .int (nI (i + 1))), (1, .int (nI (sm (fun d => if msg σ d then dg σ d 4 else 0) (i + 1)))), (0, .ref sa)]) hx hb dX8_rewards_32 hl (k := 2) rfl (nI_add i 1) (by decide) rfl (fun ls hl => ?_)
      refine lv_goto (tgt := 4) hx hb dX8_rewards_35 (by decide) ?_
      exact ih4 (i + 1) ls ⟨lv_sub hl [2, 1, 0] rfl, (by omega)⟩ (by first | omega | (dsimp only; omega))
set_option maxHeartbeats 4000000 in
set_option maxRecDepth 100000 in
theorem c_X8_meaningless (l : Launch) (g : va_G) (cy : Nat → ClassId) (sa : Nat) (sz : Nat) (σ : Nat → Nat) (bd : Nat) (hwf : WF bd σ) : Met l yX8_meaningless (Cond.code yX8_meaningless cX8_meaningless 3 (some .int) :: wsL_law) ({ frames := 1, cells := 0, slots := 0, locals := 22 } : Room) (va_Pc [.ref sa] (pr g cy [aI cy sa 248 (mS σ)] sz)) (rd_Q (some (.int (nI (ct (mng σ NN) (σ 1)))))) 0 0 (nF) := by
  refine mt_of (cc := cX8_meaningless) (maxL := 3) (ret := (some .int)) (by decide +kernel) (Nat.le_of_ble_eq_true rfl) ?_
  intro pX eX s mX below meth cX ls A hx hb hr hml hown hts hlk hin hsz hAe hA hP hD hK hX hl
  have hl : lv_has ls 3 [(0, .ref sa)] := hl
  have hS : va_S A s.heap s.heap [] := va_S.rf
  have hn0 := hwf.n0
  have hn1 := hwf.n1
  have hh2 := hwf.h2
  refine lv_iconst (v := (nI 0)) hx hb dX8_meaningless_0 (by decide) ?_
  refine lv_istore_n (lv' := [(1, .int (nI 0)), (0, .ref sa)]) hx hb dX8_meaningless_1 rfl hl (by decide) rfl (fun ls hl => ?_)
  refine lv_iconst (v := (nI 0)) hx hb dX8_meaningless_2 (by decide) ?_
  refine lv_istore_n (lv' := [(2, .int (nI 0)), (1, .int (nI 0)), (0, .ref sa)]) hx hb dX8_meaningless_3 rfl hl (by decide) rfl (fun ls hl => ?_)
  have hl : lv_has ls 3 [(2, .int (nI 0)), (1, .int (nI (ct (mng σ NN) 0))), (0, .ref sa)] := by rw [← show (nI 0) = (nI (ct (mng σ NN) 0)) from rfl]; exact hl
  refine lp_rd (σ := (Nat)) (fun x9 ls9 => lv_has ls9 3 [(0, .ref sa), (1, .int (nI (ct (mng σ NN) x9))), (2, .int (nI x9))] ∧ (x9 ≤ σ 1)) (fun x9 => σ 1 - x9) (0) ⟨lv_sub hl [2, 1, 0] rfl, (by omega)⟩ ?_
  rintro i ls ⟨hl, hi⟩ ih4
  try dsimp only at hl hi ih4
  refine lv_iload_n hx hb dX8_meaningless_4 rfl (lv_at hl 2 rfl) ?_
  refine lv_aload_n hx hb dX8_meaningless_5 rfl (lv_at hl 0 rfl) ?_
  refine lv_iconst (v := (nI 1)) hx hb dX8_meaningless_6 (by decide) ?_
  refine va_iald hx hb hK hP 0 0 rfl rfl (vp_in_nI (n := 1) (by omega) (by omega)) dX8_meaningless_7 ?_
  refine ti (show (mS σ) (nI 1).toNatClampNeg = nI (σ 1) from by rw [nI_clamp (by omega)]; rfl) ?_
  refine lv_icmp_ge (tgt := 35) hx hb dX8_meaningless_8 (by decide) (fun c_8 => ?_) (fun c_8 => ?_)
  · have c_8 := (nc_le (by omega) (by omega) c_8)
    have e9 : i = σ 1 := by omega
    subst e9
    refine lv_iload_n hx hb dX8_meaningless_35 rfl (lv_at hl 1 rfl) ?_
    exact rd_i rfl hx hb hr dX8_meaningless_36 hlk
  · have c_8 := (nc_nle (by omega) (by omega) c_8)
    have hsb := hwf.sb (show i < σ 1 by omega)
    refine lv_iload_n hx hb dX8_meaningless_11 rfl (lv_at hl 1 rfl) ?_
    refine lv_aload_n hx hb dX8_meaningless_12 rfl (lv_at hl 0 rfl) ?_
    refine lv_iload_n hx hb dX8_meaningless_13 rfl (lv_at hl 2 rfl) ?_
    refine lv_iconst (v := (nI 5)) hx hb dX8_meaningless_14 (by decide) ?_
    refine rd_call (va_runS (As := [.ref sa, .int (nI i), .int (nI 5)]) (rest := [.int (nI (ct (mng σ NN) i))]) ⟨hx, hb, hml, hown, hts⟩ (c_X8_ofSight l g cy sa s.heap.size σ i 5 (by omega) (by omega)) ⟨(cB 3 hts wd14_6 wd1_5 wd14_4 rfl rfl (by decide +kernel) ⟨Nat.le_of_ble_eq_true rfl, Nat.le_of_ble_eq_true rfl⟩), hts _ wd14_5⟩ (ps hK hP hD hS hA hX [0] rfl rfl) rfl rfl hl.1 rfl (lv_room (Nat.le_of_ble_eq_true rfl)) dX8_meaningless_15 ⟨Nat.zero_le _, Nat.zero_le _⟩) ?_
    show W _ _ _ _ _ _ _ _ _ _ _ _ _ _ _ (F0 mX 18 ls [.int (nI (sg σ i 5)), .int (nI (ct (mng σ NN) i))])
    refine lv_iconst (v := (nI NN)) hx hb dX8_meaningless_18 (by decide) ?_
    refine lv_icmp_ne (tgt := 26) hx hb dX8_meaningless_19 (by decide) (fun c_19 => ?_) (fun c_19 => ?_)
    · have c_19 := (nc_ne9 (by omega) (by decide) c_19)
      refine lv_iconst (v := (nI 0)) hx hb dX8_meaningless_26 (by decide) ?_
      refine lv_iadd hx hb dX8_meaningless_27 ?_
      refine ti (nI_add (ct (mng σ NN) i) 0) ?_
      refine lv_istore_n (lv' := [(1, .int (nI ((ct (mng σ NN) i) + 0))), (0, .ref sa), (2, .int (nI i))]) hx hb dX8_meaningless_28 rfl hl (by decide) rfl (fun ls hl => ?_)
      have hl : lv_has ls 3 [(1, .int (nI (ct (mng σ NN) (i + 1)))), (0, .ref sa), (2, .int (nI i))] := by rw [← show (nI ((ct (mng σ NN) i) + 0)) = (nI (ct (mng σ NN) (i + 1))) from (congrArg nI (by simp [ct, mng, c_19]))]; exact hl
      refine lv_iinc (v := (nI (i + 1))) (lv' := [(2, .int (nI (i + 1))), (1, .int (nI (ct (mng σ NN) (i + 1)))), (0, .ref sa)]) hx hb dX8_meaningless_29 hl (k := 2) rfl (nI_add i 1) (by decide) rfl (fun ls hl => ?_)
      refine lv_goto (tgt := 4) hx hb dX8_meaningless_32 (by decide) ?_
      exact ih4 (i + 1) ls ⟨lv_sub hl [2, 1, 0] rfl, (by omega)⟩ (by first | omega | (dsimp only; omega))
    · have c_19 := (nc_eq9 (by omega) (by decide) c_19)
      refine lv_iconst (v := (nI 1)) hx hb dX8_meaningless_22 (by decide) ?_
      refine lv_goto (tgt := 27) hx hb dX8_meaningless_23 (by decide) ?_
      refine lv_iadd hx hb dX8_meaningless_27 ?_
      refine ti (nI_add (ct (mng σ NN) i) 1) ?_
      refine lv_istore_n (lv' := [(1, .int (nI ((ct (mng σ NN) i) + 1))), (0, .ref sa), (2, .int (nI i))]) hx hb dX8_meaningless_28 rfl hl (by decide) rfl (fun ls hl => ?_)
      have hl : lv_has ls 3 [(1, .int (nI (ct (mng σ NN) (i + 1)))), (0, .ref sa), (2, .int (nI i))] := by rw [← show (nI ((ct (mng σ NN) i) + 1)) = (nI (ct (mng σ NN) (i + 1))) from (congrArg nI (by simp [ct, mng, c_19]))]; exact hl
      refine lv_iinc (v := (nI (i + 1))) (lv' := [(2, .int (nI (i + 1))), (1, .int (nI (ct (mng σ NN) (i + 1)))), (0, .ref sa)]) hx hb dX8_meaningless_29 hl (k := 2) rfl (nI_add i 1) (by decide) rfl (fun ls hl => ?_)
      refine lv_goto (tgt := 4) hx hb dX8_meaningless_32 (by decide) ?_
      exact ih4 (i + 1) ls ⟨lv_sub hl [2, 1, 0] rfl, (by omega)⟩ (by first | omega | (dsimp only; omega))
