set_option maxHeartbeats 4000000 in
set_option maxRecDepth 100000 in
theorem c_X8_helps (l : Launch) (g : va_G) (cy : Nat → ClassId) (mo a1 a2 a3 a4 a5 a6 mw mh sa : Nat) (sz : Nat) (rf : Nat) (z : Nat) (ac : Nat) (sp : Nat) (ou : Nat) (wy : Nat → Nat) (σ : Nat → Nat) (bd : Nat) (w9 : Nat → Nat) (d : Nat) (fi : Nat) (c : Nat) (hwf : WF bd σ) (hwy : ∀ i9, i9 < 144 → wy i9 = D σ i9) (hd : d < σ 0) (hfi : fi < 8) (hc9 : c < 12) : Met l yX8_helps (Cond.code yX8_helps cX8_helps 8 (some .int) :: wsL_law) ({ frames := 4, cells := 0, slots := 0, locals := 92 } : Room) (va_Pc [.ref mo, .ref sa, .int (nI d), .int (nI fi), .int (nI c)] (pr g cy [(mo, .inr (6, [.int (nI rf), .ref a1, .int (nI z), .ref a2, .ref a3, .ref a4, .int (nI ac), .ref a5, .ref a6, .ref mw, .ref mh, .int (nI sp), .int (nI ou)])), aI cy mw 144 (mS wy), aI cy mh 8 (mS w9), aI cy sa 248 (mS σ)] sz)) (wr_Q (fun _ : Unit => (some (.int (nI (hAll σ d c))))) (fun _ : Unit => True) (fun _ : Unit => [(mo, .inr (6, [.int (nI rf), .ref a1, .int (nI z), .ref a2, .ref a3, .ref a4, .int (nI ac), .ref a5, .ref a6, .ref mw, .ref mh, .int (nI sp), .int (nI ou)])), aI cy mw 144 (mS wy), aI cy mh 8 (mS (hOf σ d fi c)), aI cy sa 248 (mS σ)]) g (va_A [(mo, .inr (6, [.int (nI rf), .ref a1, .int (nI z), .ref a2, .ref a3, .ref a4, .int (nI ac), .ref a5, .ref a6, .ref mw, .ref mh, .int (nI sp), .int (nI ou)])), aI cy mw 144 (mS wy), aI cy mh 8 (mS w9), aI cy sa 248 (mS σ)] sz)) 0 0 (va_A [(mo, .inr (6, [.int (nI rf), .ref a1, .int (nI z), .ref a2, .ref a3, .ref a4, .int (nI ac), .ref a5, .ref a6, .ref mw, .ref mh, .int (nI sp), .int (nI ou)])), aI cy mw 144 (mS wy), aI cy mh 8 (mS w9), aI cy sa 248 (mS σ)] sz) := by
  refine mt_of (cc := cX8_helps) (maxL := 8) (ret := (some .int)) (by decide +kernel) (Nat.le_of_ble_eq_true rfl) ?_
  intro pX eX s mX below meth cX ls A hx hb hr hml hown hts hlk hin hsz hAe hA hP hD hK hX hl
  subst hsz
  rw [← hAe]
  clear hAe
  have hl : lv_has ls 8 [(0, .ref mo), (1, .ref sa), (2, .int (nI d)), (3, .int (nI fi)), (4, .int (nI c))] := hl
  have hS : va_S A s.heap s.heap [] := va_S.rf
  have hn0 := hwf.n0
  have hn1 := hwf.n1
  have hh2 := hwf.h2
  refine lv_iconst (v := (nI 0)) hx hb dX8_helps_0 (by decide) ?_
  refine lv_istore (lv' := [(5, .int (nI 0)), (0, .ref mo), (1, .ref sa), (2, .int (nI d)), (3, .int (nI fi)), (4, .int (nI c))]) hx hb dX8_helps_1 hl (by decide) rfl (fun ls hl => ?_)
  rw [show (mS w9) = (mS (hl0 fi w9 0)) from (congrArg mS hl0_0.symm)] at hP hD
  refine lp_rule (σ := (Nat)) (fun x9 H9 locs9 ls9 => va_P g vwCl [(mo, .inr (6, [.int (nI rf), .ref a1, .int (nI z), .ref a2, .ref a3, .ref a4, .int (nI ac), .ref a5, .ref a6, .ref mw, .ref mh, .int (nI sp), .int (nI ou)])), aI cy mw 144 (mS wy), aI cy mh 8 (mS (hl0 fi w9 x9)), aI cy sa 248 (mS σ)] H9 ∧ va_D A [(mo, .inr (6, [.int (nI rf), .ref a1, .int (nI z), .ref a2, .ref a3, .ref a4, .int (nI ac), .ref a5, .ref a6, .ref mw, .ref mh, .int (nI sp), .int (nI ou)])), aI cy mw 144 (mS wy), aI cy mh 8 (mS (hl0 fi w9 x9)), aI cy sa 248 (mS σ)] ∧ va_S A s.heap H9 locs9 ∧ lv_has ls9 8 [(0, .ref mo), (1, .ref sa), (2, .int (nI d)), (3, .int (nI fi)), (4, .int (nI c)), (5, .int (nI x9))] ∧ (x9 ≤ 8)) (fun x9 => 8 - x9) (0) ⟨hP, hD, hS, lv_sub hl [1, 2, 3, 4, 5, 0] rfl, (by omega)⟩ ?_
  rintro i H locs ls ⟨hP, hD, hS, hl, hi⟩ ih3
  try dsimp only at hl hi hP hD ih3
  refine lv_iload hx hb dX8_helps_3 (lv_at hl 5 rfl) ?_
  refine lv_bipush (v := (nI 8)) hx hb dX8_helps_5 (by decide) ?_
  refine lv_icmp_ge (tgt := 34) hx hb dX8_helps_7 (by decide) (fun c_7 => ?_) (fun c_7 => ?_)
  · have c_7 := (nc_le (by omega) (by omega) c_7)
    obtain ⟨hP, hD⟩ := arr_c (mS (hpI σ d fi c 0)) hP hD 2 rfl (fun j hj => hpI_0 (by omega))
    have hP : va_P g vwCl [(mo, .inr (6, [.int (nI rf), .ref a1, .int (nI z), .ref a2, .ref a3, .ref a4, .int (nI ac), .ref a5, .ref a6, .ref mw, .ref mh, .int (nI sp), .int (nI ou)])), aI cy mw 144 (mS wy), aI cy mh 8 (mS (hpI σ d fi c 0)), aI cy sa 248 (mS σ)] H := hP
    have hD : va_D A [(mo, .inr (6, [.int (nI rf), .ref a1, .int (nI z), .ref a2, .ref a3, .ref a4, .int (nI ac), .ref a5, .ref a6, .ref mw, .ref mh, .int (nI sp), .int (nI ou)])), aI cy mw 144 (mS wy), aI cy mh 8 (mS (hpI σ d fi c 0)), aI cy sa 248 (mS σ)] := hD
    refine lv_iconst (v := (nI 3)) hx hb dX8_helps_34 (by decide) ?_
    refine lv_istore (lv' := [(5, .int (nI 3)), (0, .ref mo), (1, .ref sa), (2, .int (nI d)), (3, .int (nI fi)), (4, .int (nI c))]) hx hb dX8_helps_35 hl (by decide) rfl (fun ls hl => ?_)
    refine lv_iconst (v := (nI 0)) hx hb dX8_helps_37 (by decide) ?_
    refine lv_istore (lv' := [(6, .int (nI 0)), (5, .int (nI 3)), (0, .ref mo), (1, .ref sa), (2, .int (nI d)), (3, .int (nI fi)), (4, .int (nI c))]) hx hb dX8_helps_38 hl (by decide) rfl (fun ls hl => ?_)
    have hl : lv_has ls 8 [(6, .int (nI 0)), (5, .int (nI (3 + sm (fun s => if hon σ d s then hlp σ s c else 0) 0))), (0, .ref mo), (1, .ref sa), (2, .int (nI d)), (3, .int (nI fi)), (4, .int (nI c))] := by rw [← show (nI 3) = (nI (3 + sm (fun s => if hon σ d s then hlp σ s c else 0) 0)) from rfl]; exact hl
    refine lp_rule (σ := (Nat)) (fun x9 H9 locs9 ls9 => va_P g vwCl [(mo, .inr (6, [.int (nI rf), .ref a1, .int (nI z), .ref a2, .ref a3, .ref a4, .int (nI ac), .ref a5, .ref a6, .ref mw, .ref mh, .int (nI sp), .int (nI ou)])), aI cy mw 144 (mS wy), aI cy mh 8 (mS (hpI σ d fi c x9)), aI cy sa 248 (mS σ)] H9 ∧ va_D A [(mo, .inr (6, [.int (nI rf), .ref a1, .int (nI z), .ref a2, .ref a3, .ref a4, .int (nI ac), .ref a5, .ref a6, .ref mw, .ref mh, .int (nI sp), .int (nI ou)])), aI cy mw 144 (mS wy), aI cy mh 8 (mS (hpI σ d fi c x9)), aI cy sa 248 (mS σ)] ∧ va_S A s.heap H9 locs9 ∧ lv_has ls9 8 [(0, .ref mo), (1, .ref sa), (2, .int (nI d)), (3, .int (nI fi)), (4, .int (nI c)), (5, .int (nI (3 + sm (fun s => if hon σ d s then hlp σ s c else 0) x9))), (6, .int (nI x9))] ∧ (x9 ≤ σ 1)) (fun x9 => σ 1 - x9) (0) ⟨hP, hD, hS, lv_sub hl [2, 3, 4, 5, 6, 1, 0] rfl, (by omega)⟩ ?_
    rintro i H locs ls ⟨hP, hD, hS, hl, hi⟩ ih40
    try dsimp only at hl hi hP hD ih40
    refine lv_iload hx hb dX8_helps_40 (lv_at hl 6 rfl) ?_
    refine lv_aload_n hx hb dX8_helps_42 rfl (lv_at hl 1 rfl) ?_
    refine lv_iconst (v := (nI 1)) hx hb dX8_helps_43 (by decide) ?_
    refine va_iald hx hb hK hP 3 0 rfl rfl (vp_in_nI (n := 1) (by omega) (by omega)) dX8_helps_44 ?_
    refine ti (show (mS σ) (nI 1).toNatClampNeg = nI (σ 1) from by rw [nI_clamp (by omega)]; rfl) ?_
    refine lv_icmp_ge (tgt := 133) hx hb dX8_helps_45 (by decide) (fun c_45 => ?_) (fun c_45 => ?_)
    · have c_45 := (nc_le (by omega) (by omega) c_45)
      have e9 : i = σ 1 := by omega
      subst e9
      refine lv_iload hx hb dX8_helps_133 (lv_at hl 5 rfl) ?_
      exact wr_i () rfl trivial hP hS hx hb hr dX8_helps_135 hlk
    · have c_45 := (nc_nle (by omega) (by omega) c_45)
      have hsb := hwf.sb (show i < σ 1 by omega)
      refine lv_aload_n hx hb dX8_helps_48 rfl (lv_at hl 1 rfl) ?_
      refine lv_iload hx hb dX8_helps_49 (lv_at hl 6 rfl) ?_
      refine lv_iconst (v := (nI 5)) hx hb dX8_helps_51 (by decide) ?_
      refine rd_call (va_runS (As := [.ref sa, .int (nI i), .int (nI 5)]) (rest := []) ⟨hx, hb, hml, hown, hts⟩ (c_X8_ofSight l g cy sa H.size σ i 5 (by omega) (by omega)) ⟨(cB 3 hts wd14_6 wd1_5 wd14_4 rfl rfl (by decide +kernel) ⟨Nat.le_of_ble_eq_true rfl, Nat.le_of_ble_eq_true rfl⟩), hts _ wd14_5⟩ (ps hK hP hD hS hA hX [3] rfl rfl) rfl rfl hl.1 rfl (lv_room (Nat.le_of_ble_eq_true rfl)) dX8_helps_52 ⟨Nat.zero_le _, Nat.zero_le _⟩) ?_
      show W _ _ _ _ _ _ _ _ _ _ _ _ _ _ _ (F0 mX 55 ls [.int (nI (sg σ i 5))])
      refine lv_iload_n hx hb dX8_helps_55 rfl (lv_at hl 2 rfl) ?_
      refine lv_icmp_ne (tgt := 127) hx hb dX8_helps_56 (by decide) (fun c_56 => ?_) (fun c_56 => ?_)
      · have c_56 := (nc_ne9 (by omega) (by omega) c_56)
        rw [show (mS (hpI σ d fi c i)) = (mS (hpI σ d fi c (i + 1))) from (congrArg mS (hpI_no (by simp [hon, mng, c_56])))] at hP hD
        have hl : lv_has ls 8 [(0, .ref mo), (1, .ref sa), (2, .int (nI d)), (3, .int (nI fi)), (4, .int (nI c)), (5, .int (nI (3 + sm (fun s => if hon σ d s then hlp σ s c else 0) (i + 1)))), (6, .int (nI i))] := by rw [← show (nI (3 + sm (fun s => if hon σ d s then hlp σ s c else 0) i)) = (nI (3 + sm (fun s => if hon σ d s then hlp σ s c else 0) (i + 1))) from (congrArg nI (by simp [sm, show hon σ d i = false from by simp [hon, mng, c_56]]))]; exact hl
        refine lv_iinc (v := (nI (i + 1))) (lv' := [(6, .int (nI (i + 1))), (0, .ref mo), (1, .ref sa), (2, .int (nI d)), (3, .int (nI fi)), (4, .int (nI c)), (5, .int (nI (3 + sm (fun s => if hon σ d s then hlp σ s c else 0) (i + 1))))]) hx hb dX8_helps_127 hl (k := 6) rfl (nI_add i 1) (by decide) rfl (fun ls hl => ?_)
        refine lv_goto (tgt := 40) hx hb dX8_helps_130 (by decide) ?_
        exact ih40 (i + 1) H locs ls ⟨hP, hD, hS, lv_sub hl [1, 2, 3, 4, 5, 6, 0] rfl, (by omega)⟩ (by first | omega | (dsimp only; omega))
      · have c_56 := (nc_eq9 (by omega) (by omega) c_56)
        refine lv_aload_n hx hb dX8_helps_59 rfl (lv_at hl 0 rfl) ?_
        refine lv_aload_n hx hb dX8_helps_60 rfl (lv_at hl 1 rfl) ?_
        refine lv_iload hx hb dX8_helps_61 (lv_at hl 6 rfl) ?_
        refine rd_call (va_runV (As := [.ref sa, .int (nI i)]) (rest := []) ⟨hx, hb, hml, hown, hts⟩ (c_X8_isFraud l g cy mo a1 a2 a3 a4 a5 a6 mw mh sa H.size rf z ac sp ou wy σ bd i hwf hwy (by omega)) ⟨(cB 2 hts wd14_10 wd1_5 wd14_7 rfl rfl (by decide +kernel) ⟨Nat.le_of_ble_eq_true rfl, Nat.le_of_ble_eq_true rfl⟩), hts _ wd14_8, hts _ wd14_9⟩ (pv hK hP hD hS hA hX [0, 1, 3] rfl rfl 6 0 rfl rfl) rfl rfl hl.1 rfl (lv_room (Nat.le_of_ble_eq_true rfl)) dX8_helps_63 ⟨Nat.zero_le _, Nat.zero_le _⟩) ?_
        show W _ _ _ _ _ _ _ _ _ _ _ _ _ _ _ (F0 mX 66 ls [.int (bI (frd σ i))])
        refine lv_if_ne (tgt := 127) hx hb dX8_helps_66 (by decide) (fun c_66 => ?_) (fun c_66 => ?_)
        · have c_66 := (bI_ne0.mp c_66)
          rw [show (mS (hpI σ d fi c i)) = (mS (hpI σ d fi c (i + 1))) from (congrArg mS (hpI_no (by simp [hon, mng, c_56, c_66])))] at hP hD
          have hl : lv_has ls 8 [(0, .ref mo), (1, .ref sa), (2, .int (nI d)), (3, .int (nI fi)), (4, .int (nI c)), (5, .int (nI (3 + sm (fun s => if hon σ d s then hlp σ s c else 0) (i + 1)))), (6, .int (nI i))] := by rw [← show (nI (3 + sm (fun s => if hon σ d s then hlp σ s c else 0) i)) = (nI (3 + sm (fun s => if hon σ d s then hlp σ s c else 0) (i + 1))) from (congrArg nI (by simp [sm, show hon σ d i = false from by simp [hon, mng, c_56, c_66]]))]; exact hl
          refine lv_iinc (v := (nI (i + 1))) (lv' := [(6, .int (nI (i + 1))), (0, .ref mo), (1, .ref sa), (2, .int (nI d)), (3, .int (nI fi)), (4, .int (nI c)), (5, .int (nI (3 + sm (fun s => if hon σ d s then hlp σ s c else 0) (i + 1))))]) hx hb dX8_helps_127 hl (k := 6) rfl (nI_add i 1) (by decide) rfl (fun ls hl => ?_)
          refine lv_goto (tgt := 40) hx hb dX8_helps_130 (by decide) ?_
          exact ih40 (i + 1) H locs ls ⟨hP, hD, hS, lv_sub hl [1, 2, 3, 4, 5, 6, 0] rfl, (by omega)⟩ (by first | omega | (dsimp only; omega))
        · have c_66 := (bI_eq0.mp c_66)
          have hho : hon σ d i = true := by simp [hon, mng, c_56, c_66]
          refine lv_iconst (v := (nI 1)) hx hb dX8_helps_69 (by decide) ?_
          refine lv_aload_n hx hb dX8_helps_70 rfl (lv_at hl 1 rfl) ?_
          refine lv_iload hx hb dX8_helps_71 (lv_at hl 6 rfl) ?_
          refine lv_iconst (v := (nI 4)) hx hb dX8_helps_73 (by decide) ?_
          refine rd_call (va_runS (As := [.ref sa, .int (nI i), .int (nI 4)]) (rest := [.int (nI 1)]) ⟨hx, hb, hml, hown, hts⟩ (c_X8_ofSight l g cy sa H.size σ i 4 (by omega) (by omega)) ⟨(cB 3 hts wd14_6 wd1_5 wd14_4 rfl rfl (by decide +kernel) ⟨Nat.le_of_ble_eq_true rfl, Nat.le_of_ble_eq_true rfl⟩), hts _ wd14_5⟩ (ps hK hP hD hS hA hX [3] rfl rfl) rfl rfl hl.1 rfl (lv_room (Nat.le_of_ble_eq_true rfl)) dX8_helps_74 ⟨Nat.zero_le _, Nat.zero_le _⟩) ?_
          show W _ _ _ _ _ _ _ _ _ _ _ _ _ _ _ (F0 mX 77 ls [.int (nI (sg σ i 4)), .int (nI 1)])
          refine lv_iadd hx hb dX8_helps_77 ?_
          refine ti (nI_add 1 (sg σ i 4)) ?_
          refine lv_aload_n hx hb dX8_helps_78 rfl (lv_at hl 0 rfl) ?_
          refine lv_aload_n hx hb dX8_helps_79 rfl (lv_at hl 1 rfl) ?_
          refine lv_iload hx hb dX8_helps_80 (lv_at hl 6 rfl) ?_
          refine lv_iconst (v := (nI 1)) hx hb dX8_helps_82 (by decide) ?_
          refine rd_call (va_runS (As := [.ref sa, .int (nI i), .int (nI 1)]) (rest := [.ref mo, .int (nI (1 + (sg σ i 4)))]) ⟨hx, hb, hml, hown, hts⟩ (c_X8_ofSight l g cy sa H.size σ i 1 (by omega) (by omega)) ⟨(cB 3 hts wd14_6 wd1_5 wd14_4 rfl rfl (by decide +kernel) ⟨Nat.le_of_ble_eq_true rfl, Nat.le_of_ble_eq_true rfl⟩), hts _ wd14_5⟩ (ps hK hP hD hS hA hX [3] rfl rfl) rfl rfl hl.1 rfl (lv_room (Nat.le_of_ble_eq_true rfl)) dX8_helps_83 ⟨Nat.zero_le _, Nat.zero_le _⟩) ?_
          show W _ _ _ _ _ _ _ _ _ _ _ _ _ _ _ (F0 mX 86 ls [.int (nI (sg σ i 1)), .ref mo, .int (nI (1 + (sg σ i 4)))])
          refine lv_iload hx hb dX8_helps_86 (lv_at hl 4 rfl) ?_
          refine lv_iconst (v := (nI 1)) hx hb dX8_helps_88 (by decide) ?_
          refine rd_call (va_runV (As := [.int (nI (sg σ i 1)), .int (nI c), .int (nI 1)]) (rest := [.int (nI (1 + (sg σ i 4)))]) ⟨hx, hb, hml, hown, hts⟩ (c_X8_reaches l g cy mo a1 a2 a3 a4 a5 a6 mw mh sa H.size rf z ac sp ou wy σ bd (sg σ i 1) c 1 hwy (by omega) (by omega) (by omega)) ⟨(cB 3 hts wd14_18 wd1_5 wd14_15 rfl rfl (by decide +kernel) ⟨Nat.le_of_ble_eq_true rfl, Nat.le_of_ble_eq_true rfl⟩), hts _ wd14_16, hts _ wd14_17⟩ (pv hK hP hD hS hA hX [0, 1, 3] rfl rfl 6 0 rfl rfl) rfl rfl hl.1 rfl (lv_room (Nat.le_of_ble_eq_true rfl)) dX8_helps_89 ⟨Nat.zero_le _, Nat.zero_le _⟩) ?_
          show W _ _ _ _ _ _ _ _ _ _ _ _ _ _ _ (F0 mX 92 ls [.int (bI (rch σ (sg σ i 1) c 1)), .int (nI (1 + (sg σ i 4)))])
          refine jn_i (pcj := 100) (ls := ls) (st := [.int (nI (1 + (sg σ i 4)))]) (fun v9 => v9 = (nI (if rch σ (sg σ i 1) c 1 then 1 else 0))) ?_ (fun jn100 => ?_)
          · intro v9 hv9
            subst hv9
            refine lv_iadd hx hb dX8_helps_100 ?_
            refine ti (nI_add (1 + (sg σ i 4)) (if rch σ (sg σ i 1) c 1 then 1 else 0)) ?_
            refine ti (show (nI ((1 + (sg σ i 4)) + (if rch σ (sg σ i 1) c 1 then 1 else 0))) = (nI (hlp σ i c)) from rfl) ?_
            refine lv_istore (lv' := [(7, .int (nI (hlp σ i c))), (0, .ref mo), (1, .ref sa), (2, .int (nI d)), (3, .int (nI fi)), (4, .int (nI c)), (5, .int (nI (3 + sm (fun s => if hon σ d s then hlp σ s c else 0) i))), (6, .int (nI i))]) hx hb dX8_helps_101 hl (by decide) rfl (fun ls hl => ?_)
            refine lv_aload_n hx hb dX8_helps_103 rfl (lv_at hl 1 rfl) ?_
            refine va_get (D := g) (ci := 6) (v := .ref mh) (C := RX8) (T := TX8) (N := 13) hx hb hts bgX8 hown hK hP 0 rfl rfl 10 (by decide) (hts _ wd6_3) (fun _ h9 => h9) rfl dX8_helps_104 ?_
            refine lv_aload_n hx hb dX8_helps_107 rfl (lv_at hl 2 rfl) ?_
            refine lv_iload hx hb dX8_helps_108 (lv_at hl 7 rfl) ?_
            refine lv_iconst (v := (nI 0)) hx hb dX8_helps_110 (by decide) ?_
            refine rd_call (va_runS (As := [.ref sa, .int (nI i), .int (nI 0)]) (rest := [.ref mh]) ⟨hx, hb, hml, hown, hts⟩ (c_X8_ofSight l g cy sa H.size σ i 0 (by omega) (by omega)) ⟨(cB 3 hts wd14_6 wd1_5 wd14_4 rfl rfl (by decide +kernel) ⟨Nat.le_of_ble_eq_true rfl, Nat.le_of_ble_eq_true rfl⟩), hts _ wd14_5⟩ (ps hK hP hD hS hA hX [3] rfl rfl) rfl rfl hl.1 rfl (lv_room (Nat.le_of_ble_eq_true rfl)) dX8_helps_111 ⟨Nat.zero_le _, Nat.zero_le _⟩) ?_
            show W _ _ _ _ _ _ _ _ _ _ _ _ _ _ _ (F0 mX 114 ls [.int (nI (sg σ i 0)), .ref mh])
            refine lv_dup2_11 hx hb dX8_helps_114 rfl rfl ?_
            refine va_iald hx hb hK hP 2 0 rfl rfl (vp_in_nI (n := (sg σ i 0)) (by omega) (by omega)) dX8_helps_115 ?_
            refine ti (show (mS (hpI σ d fi c i)) (nI (sg σ i 0)).toNatClampNeg = nI ((hpI σ d fi c i) (sg σ i 0)) from by rw [nI_clamp (by omega)]; rfl) ?_
            refine lv_iload hx hb dX8_helps_116 (lv_at hl 0 rfl) ?_
            refine lv_iadd hx hb dX8_helps_118 ?_
            refine ti (nI_add ((hpI σ d fi c i) (sg σ i 0)) (hlp σ i c)) ?_
            refine va_iast hx hb hK hP hD hS 2 0 rfl rfl (vp_in_nI (n := (sg σ i 0)) (by omega) (by omega)) dX8_helps_119 (fun H locs hP hD hS => ?_)
            rw [nI_clamp (n := (sg σ i 0)) (by omega)] at hP hD
            rw [mS_up] at hP hD
            have hP : va_P g vwCl [(mo, .inr (6, [.int (nI rf), .ref a1, .int (nI z), .ref a2, .ref a3, .ref a4, .int (nI ac), .ref a5, .ref a6, .ref mw, .ref mh, .int (nI sp), .int (nI ou)])), aI cy mw 144 (mS wy), aI cy mh 8 (mS (up (hpI σ d fi c i) (sg σ i 0) (((hpI σ d fi c i) (sg σ i 0)) + (hlp σ i c)))), aI cy sa 248 (mS σ)] H := hP
            have hD : va_D A [(mo, .inr (6, [.int (nI rf), .ref a1, .int (nI z), .ref a2, .ref a3, .ref a4, .int (nI ac), .ref a5, .ref a6, .ref mw, .ref mh, .int (nI sp), .int (nI ou)])), aI cy mw 144 (mS wy), aI cy mh 8 (mS (up (hpI σ d fi c i) (sg σ i 0) (((hpI σ d fi c i) (sg σ i 0)) + (hlp σ i c)))), aI cy sa 248 (mS σ)] := hD
            rw [show mS (up (hpI σ d fi c i) (sg σ i 0) (((hpI σ d fi c i) (sg σ i 0)) + (hlp σ i c))) = (mS (hpI σ d fi c (i + 1))) from (congrArg mS (hpI_s hho))] at hP hD
            refine lv_iload hx hb dX8_helps_120 (lv_at hl 6 rfl) ?_
            refine lv_iload hx hb dX8_helps_122 (lv_at hl 0 rfl) ?_
            refine lv_iadd hx hb dX8_helps_124 ?_
            refine ti (nI_add (3 + sm (fun s => if hon σ d s then hlp σ s c else 0) i) (hlp σ i c)) ?_
            refine ti (show (nI ((3 + sm (fun s => if hon σ d s then hlp σ s c else 0) i) + (hlp σ i c))) = (nI (3 + sm (fun s => if hon σ d s then hlp σ s c else 0) (i + 1))) from (congrArg nI (by simp [sm, hho, Nat.add_assoc]))) ?_
            refine lv_istore (lv' := [(5, .int (nI (3 + sm (fun s => if hon σ d s then hlp σ s c else 0) (i + 1)))), (7, .int (nI (hlp σ i c))), (0, .ref mo), (1, .ref sa), (2, .int (nI d)), (3, .int (nI fi)), (4, .int (nI c)), (6, .int (nI i))]) hx hb dX8_helps_125 hl (by decide) rfl (fun ls hl => ?_)
            refine lv_iinc (v := (nI (i + 1))) (lv' := [(6, .int (nI (i + 1))), (5, .int (nI (3 + sm (fun s => if hon σ d s then hlp σ s c else 0) (i + 1)))), (7, .int (nI (hlp σ i c))), (0, .ref mo), (1, .ref sa), (2, .int (nI d)), (3, .int (nI fi)), (4, .int (nI c))]) hx hb dX8_helps_127 hl (k := 7) rfl (nI_add i 1) (by decide) rfl (fun ls hl => ?_)
            refine lv_goto (tgt := 40) hx hb dX8_helps_130 (by decide) ?_
            exact ih40 (i + 1) H locs ls ⟨hP, hD, hS, lv_sub hl [3, 4, 5, 6, 7, 1, 0] rfl, (by omega)⟩ (by first | omega | (dsimp only; omega))
          · skip
            refine lv_if_eq (tgt := 99) hx hb dX8_helps_92 (by decide) (fun c_92 => ?_) (fun c_92 => ?_)
            · have c_92 := (bI_eq0.mp c_92)
              refine lv_iconst (v := (nI 0)) hx hb dX8_helps_99 (by decide) ?_
              exact jn100 _ (congrArg nI (by simp [c_92]))
            · have c_92 := (bI_ne0.mp c_92)
              refine lv_iconst (v := (nI 1)) hx hb dX8_helps_95 (by decide) ?_
              refine lv_goto (tgt := 100) hx hb dX8_helps_96 (by decide) ?_
              exact jn100 _ (congrArg nI (by simp [c_92]))
  · have c_7 := (nc_nle (by omega) (by omega) c_7)
    refine lv_aload_n hx hb dX8_helps_10 rfl (lv_at hl 0 rfl) ?_
    refine va_get (D := g) (ci := 6) (v := .ref mh) (C := RX8) (T := TX8) (N := 13) hx hb hts bgX8 hown hK hP 0 rfl rfl 10 (by decide) (hts _ wd6_3) (fun _ h9 => h9) rfl dX8_helps_11 ?_
    refine lv_iload hx hb dX8_helps_14 (lv_at hl 5 rfl) ?_
    refine lv_iload hx hb dX8_helps_16 (lv_at hl 5 rfl) ?_
    refine lv_iload_n hx hb dX8_helps_18 rfl (lv_at hl 3 rfl) ?_
    refine lv_icmp_ne (tgt := 26) hx hb dX8_helps_19 (by decide) (fun c_19 => ?_) (fun c_19 => ?_)
    · have c_19 := (nc_ne9 (by omega) (by omega) c_19)
      refine lv_iconst (v := (nI 0)) hx hb dX8_helps_26 (by decide) ?_
      refine va_iast hx hb hK hP hD hS 2 0 rfl rfl (vp_in_nI (n := i) (by omega) (by omega)) dX8_helps_27 (fun H locs hP hD hS => ?_)
      rw [nI_clamp (n := i) (by omega)] at hP hD
      rw [mS_up] at hP hD
      have hP : va_P g vwCl [(mo, .inr (6, [.int (nI rf), .ref a1, .int (nI z), .ref a2, .ref a3, .ref a4, .int (nI ac), .ref a5, .ref a6, .ref mw, .ref mh, .int (nI sp), .int (nI ou)])), aI cy mw 144 (mS wy), aI cy mh 8 (mS (up (hl0 fi w9 i) i 0)), aI cy sa 248 (mS σ)] H := hP
      have hD : va_D A [(mo, .inr (6, [.int (nI rf), .ref a1, .int (nI z), .ref a2, .ref a3, .ref a4, .int (nI ac), .ref a5, .ref a6, .ref mw, .ref mh, .int (nI sp), .int (nI ou)])), aI cy mw 144 (mS wy), aI cy mh 8 (mS (up (hl0 fi w9 i) i 0)), aI cy sa 248 (mS σ)] := hD
      rw [show mS (up (hl0 fi w9 i) i 0) = (mS (hl0 fi w9 (i + 1))) from (congrArg mS (hl0_s (if_neg c_19)))] at hP hD
      refine lv_iinc (v := (nI (i + 1))) (lv' := [(5, .int (nI (i + 1))), (0, .ref mo), (1, .ref sa), (2, .int (nI d)), (3, .int (nI fi)), (4, .int (nI c))]) hx hb dX8_helps_28 hl (k := 5) rfl (nI_add i 1) (by decide) rfl (fun ls hl => ?_)
      refine lv_goto (tgt := 3) hx hb dX8_helps_31 (by decide) ?_
      exact ih3 (i + 1) H locs ls ⟨hP, hD, hS, lv_sub hl [1, 2, 3, 4, 5, 0] rfl, (by omega)⟩ (by first | omega | (dsimp only; omega))
    · have c_19 := (nc_eq9 (by omega) (by omega) c_19)
      refine lv_iconst (v := (nI 3)) hx hb dX8_helps_22 (by decide) ?_
      refine lv_goto (tgt := 27) hx hb dX8_helps_23 (by decide) ?_
      refine va_iast hx hb hK hP hD hS 2 0 rfl rfl (vp_in_nI (n := i) (by omega) (by omega)) dX8_helps_27 (fun H locs hP hD hS => ?_)
      rw [nI_clamp (n := i) (by omega)] at hP hD
      rw [mS_up] at hP hD
      have hP : va_P g vwCl [(mo, .inr (6, [.int (nI rf), .ref a1, .int (nI z), .ref a2, .ref a3, .ref a4, .int (nI ac), .ref a5, .ref a6, .ref mw, .ref mh, .int (nI sp), .int (nI ou)])), aI cy mw 144 (mS wy), aI cy mh 8 (mS (up (hl0 fi w9 i) i 3)), aI cy sa 248 (mS σ)] H := hP
      have hD : va_D A [(mo, .inr (6, [.int (nI rf), .ref a1, .int (nI z), .ref a2, .ref a3, .ref a4, .int (nI ac), .ref a5, .ref a6, .ref mw, .ref mh, .int (nI sp), .int (nI ou)])), aI cy mw 144 (mS wy), aI cy mh 8 (mS (up (hl0 fi w9 i) i 3)), aI cy sa 248 (mS σ)] := hD
      rw [show mS (up (hl0 fi w9 i) i 3) = (mS (hl0 fi w9 (i + 1))) from (congrArg mS (hl0_s (if_pos c_19)))] at hP hD
      refine lv_iinc (v := (nI (i + 1))) (lv' := [(5, .int (nI (i + 1))), (0, .ref mo), (1, .ref sa), (2, .int (nI d)), (3, .int (nI fi)), (4, .int (nI c))]) hx hb dX8_helps_28 hl (k := 5) rfl (nI_add i 1) (by decide) rfl (fun ls hl => ?_)
      refine lv_goto (tgt := 3) hx hb dX8_helps_31 (by decide) ?_
      exact ih3 (i + 1) H locs ls ⟨hP, hD, hS, lv_sub hl [1, 2, 3, 4, 5, 0] rfl, (by omega)⟩ (by first | omega | (dsimp only; omega))
set_option maxHeartbeats 4000000 in
set_option maxRecDepth 100000 in
theorem c_X8_settle (l : Launch) (g : va_G) (cy : Nat → ClassId) (mo a1 a2 a3 a4 a5 a6 mw mh sa : Nat) (sz : Nat) (rf : Nat) (z : Nat) (ac : Nat) (sp : Nat) (ou : Nat) (wy : Nat → Nat) (σ : Nat → Nat) (bd : Nat) (d : Nat) (hwf : WF bd σ) (hwy : ∀ i9, i9 < 144 → wy i9 = D σ i9) (hd : d < σ 0) (hm9 : msg σ d = true) : Met l yX8_settle (Cond.code yX8_settle cX8_settle 4 none :: wsL_law) ({ frames := 4, cells := 0, slots := 0, locals := 92 } : Room) (va_Pc [.ref mo, .ref sa, .int (nI d)] (pr g cy [(mo, .inr (6, [.int (nI rf), .ref a1, .int (nI z), .ref a2, .ref a3, .ref a4, .int (nI ac), .ref a5, .ref a6, .ref mw, .ref mh, .int (nI sp), .int (nI ou)])), aI cy mw 144 (mS wy), aI cy sa 248 (mS σ)] sz)) (wr_Q (fun _ : Unit => none) (fun _ : Unit => True) (fun _ : Unit => [(mo, .inr (6, [.int (nI rf), .ref a1, .int (nI z), .ref a2, .ref a3, .ref a4, .int (nI ac), .ref a5, .ref a6, .ref mw, .ref mh, .int (nI sp), .int (nI ou)])), aI cy mw 144 (mS wy), aI cy sa 248 (mS (stI σ d (σ 1)))]) g (va_A [(mo, .inr (6, [.int (nI rf), .ref a1, .int (nI z), .ref a2, .ref a3, .ref a4, .int (nI ac), .ref a5, .ref a6, .ref mw, .ref mh, .int (nI sp), .int (nI ou)])), aI cy mw 144 (mS wy), aI cy sa 248 (mS σ)] sz)) 0 0 (va_A [(mo, .inr (6, [.int (nI rf), .ref a1, .int (nI z), .ref a2, .ref a3, .ref a4, .int (nI ac), .ref a5, .ref a6, .ref mw, .ref mh, .int (nI sp), .int (nI ou)])), aI cy mw 144 (mS wy), aI cy sa 248 (mS σ)] sz) := by
  refine mt_of (cc := cX8_settle) (maxL := 4) (ret := none) (by decide +kernel) (Nat.le_of_ble_eq_true rfl) ?_
  intro pX eX s mX below meth cX ls A hx hb hr hml hown hts hlk hin hsz hAe hA hP hD hK hX hl
  subst hsz
  rw [← hAe]
  clear hAe
  have hl : lv_has ls 4 [(0, .ref mo), (1, .ref sa), (2, .int (nI d))] := hl
  have hS : va_S A s.heap s.heap [] := va_S.rf
  have hn0 := hwf.n0
  have hn1 := hwf.n1
  have hh2 := hwf.h2
  have hnn := hwf.nn hd
  refine lv_iconst (v := (nI 0)) hx hb dX8_settle_0 (by decide) ?_
  refine lv_istore_n (lv' := [(3, .int (nI 0)), (0, .ref mo), (1, .ref sa), (2, .int (nI d))]) hx hb dX8_settle_1 rfl hl (by decide) rfl (fun ls hl => ?_)
  rw [show (mS σ) = (mS (stI σ d 0)) from (congrArg mS stI_0.symm)] at hP hD
  refine lp_rule (σ := (Nat)) (fun x9 H9 locs9 ls9 => va_P g vwCl [(mo, .inr (6, [.int (nI rf), .ref a1, .int (nI z), .ref a2, .ref a3, .ref a4, .int (nI ac), .ref a5, .ref a6, .ref mw, .ref mh, .int (nI sp), .int (nI ou)])), aI cy mw 144 (mS wy), aI cy sa 248 (mS (stI σ d x9))] H9 ∧ va_D A [(mo, .inr (6, [.int (nI rf), .ref a1, .int (nI z), .ref a2, .ref a3, .ref a4, .int (nI ac), .ref a5, .ref a6, .ref mw, .ref mh, .int (nI sp), .int (nI ou)])), aI cy mw 144 (mS wy), aI cy sa 248 (mS (stI σ d x9))] ∧ va_S A s.heap H9 locs9 ∧ lv_has ls9 4 [(0, .ref mo), (1, .ref sa), (2, .int (nI d)), (3, .int (nI x9))] ∧ (x9 ≤ σ 1)) (fun x9 => σ 1 - x9) (0) ⟨hP, hD, hS, lv_sub hl [1, 2, 3, 0] rfl, (by omega)⟩ ?_
  rintro i H locs ls ⟨hP, hD, hS, hl, hi⟩ ih2
  try dsimp only at hl hi hP hD ih2
  refine lv_iload_n hx hb dX8_settle_2 rfl (lv_at hl 3 rfl) ?_
  refine lv_aload_n hx hb dX8_settle_3 rfl (lv_at hl 1 rfl) ?_
  refine lv_iconst (v := (nI 1)) hx hb dX8_settle_4 (by decide) ?_
  refine va_iald hx hb hK hP 2 0 rfl rfl (vp_in_nI (n := 1) (by omega) (by omega)) dX8_settle_5 ?_
  refine ti (show (mS (stI σ d i)) (nI 1).toNatClampNeg = nI ((stI σ d i) 1) from by rw [nI_clamp (by omega)]; rfl) ?_
  refine ti (show (nI ((stI σ d i) 1)) = (nI (σ 1)) from (congrArg nI (stI_ag.lo (by omega)))) ?_
  refine lv_icmp_ge (tgt := 77) hx hb dX8_settle_6 (by decide) (fun c_6 => ?_) (fun c_6 => ?_)
  · have c_6 := (nc_le (by omega) (by omega) c_6)
    have e9 : i = σ 1 := by omega
    subst e9
    exact wr_v () rfl trivial hP hS hx hb hr dX8_settle_77 hlk
  · have c_6 := (nc_nle (by omega) (by omega) c_6)
    have hsb := hwf.sb (show i < σ 1 by omega)
    have hag : agS σ (stI σ d i) d := stI_ag
    refine lv_aload_n hx hb dX8_settle_9 rfl (lv_at hl 1 rfl) ?_
    refine lv_iload_n hx hb dX8_settle_10 rfl (lv_at hl 3 rfl) ?_
    refine lv_iconst (v := (nI 5)) hx hb dX8_settle_11 (by decide) ?_
    refine rd_call (va_runS (As := [.ref sa, .int (nI i), .int (nI 5)]) (rest := []) ⟨hx, hb, hml, hown, hts⟩ (c_X8_ofSight l g cy sa H.size (stI σ d i) i 5 (by omega) (by omega)) ⟨(cB 3 hts wd14_6 wd1_5 wd14_4 rfl rfl (by decide +kernel) ⟨Nat.le_of_ble_eq_true rfl, Nat.le_of_ble_eq_true rfl⟩), hts _ wd14_5⟩ (ps hK hP hD hS hA hX [2] rfl rfl) rfl rfl hl.1 rfl (lv_room (Nat.le_of_ble_eq_true rfl)) dX8_settle_12 ⟨Nat.zero_le _, Nat.zero_le _⟩) ?_
    show W _ _ _ _ _ _ _ _ _ _ _ _ _ _ _ (F0 mX 15 ls [.int (nI (sg (stI σ d i) i 5))])
    refine ti (show (nI (sg (stI σ d i) i 5)) = (nI (sg σ i 5)) from (congrArg nI (hag.sgx (by omega)))) ?_
    refine lv_iload_n hx hb dX8_settle_15 rfl (lv_at hl 2 rfl) ?_
    refine lv_icmp_ne (tgt := 71) hx hb dX8_settle_16 (by decide) (fun c_16 => ?_) (fun c_16 => ?_)
    · have c_16 := (nc_ne9 (by omega) (by omega) c_16)
      rw [show (mS (stI σ d i)) = (mS (stI σ d (i + 1))) from (congrArg mS (stI_no c_16))] at hP hD
      refine lv_iinc (v := (nI (i + 1))) (lv' := [(3, .int (nI (i + 1))), (0, .ref mo), (1, .ref sa), (2, .int (nI d))]) hx hb dX8_settle_71 hl (k := 3) rfl (nI_add i 1) (by decide) rfl (fun ls hl => ?_)
      refine lv_goto (tgt := 2) hx hb dX8_settle_74 (by decide) ?_
      exact ih2 (i + 1) H locs ls ⟨hP, hD, hS, lv_sub hl [1, 2, 3, 0] rfl, (by omega)⟩ (by first | omega | (dsimp only; omega))
    · have c_16 := (nc_eq9 (by omega) (by omega) c_16)
      refine lv_aload_n hx hb dX8_settle_19 rfl (lv_at hl 1 rfl) ?_
      refine lv_bipush (v := (nI 88)) hx hb dX8_settle_20 (by decide) ?_
      refine lv_bipush (v := (nI 8)) hx hb dX8_settle_22 (by decide) ?_
      refine lv_iload_n hx hb dX8_settle_24 rfl (lv_at hl 3 rfl) ?_
      refine lv_imul hx hb dX8_settle_25 ?_
      refine ti (pk_mul 8 i) ?_
      refine lv_iadd hx hb dX8_settle_26 ?_
      refine ti (nI_add 88 (8 * i)) ?_
      refine lv_bipush (v := (nI 6)) hx hb dX8_settle_27 (by decide) ?_
      refine lv_iadd hx hb dX8_settle_29 ?_
      refine ti (nI_add (88 + (8 * i)) 6) ?_
      refine lv_aload_n hx hb dX8_settle_30 rfl (lv_at hl 0 rfl) ?_
      refine lv_aload_n hx hb dX8_settle_31 rfl (lv_at hl 1 rfl) ?_
      refine lv_iload_n hx hb dX8_settle_32 rfl (lv_at hl 3 rfl) ?_
      refine rd_call (va_runV (As := [.ref sa, .int (nI i)]) (rest := [.int (nI ((88 + (8 * i)) + 6)), .ref sa]) ⟨hx, hb, hml, hown, hts⟩ (c_X8_isTrue l g cy mo a1 a2 a3 a4 a5 a6 mw mh sa H.size rf z ac sp ou wy (stI σ d i) bd i (WF_agS hwf hag) (fun k hk => by rw [hwy k hk]; exact (D_cl (cmk_of (agS_st hag)) k hk).symm) (by rw [hag.lo (show 1 < 88 by omega)]; omega) (by rw [hag.sgx (by omega), c_16]; exact hnn)) ⟨(cB 2 hts wd14_14 wd1_5 wd14_11 rfl rfl (by decide +kernel) ⟨Nat.le_of_ble_eq_true rfl, Nat.le_of_ble_eq_true rfl⟩), hts _ wd14_12, hts _ wd14_13⟩ (pv hK hP hD hS hA hX [0, 1, 2] rfl rfl 6 0 rfl rfl) rfl rfl hl.1 rfl (lv_room (Nat.le_of_ble_eq_true rfl)) dX8_settle_33 ⟨Nat.zero_le _, Nat.zero_le _⟩) ?_
      show W _ _ _ _ _ _ _ _ _ _ _ _ _ _ _ (F0 mX 36 ls [.int (bI (tru (stI σ d i) i)), .int (nI ((88 + (8 * i)) + 6)), .ref sa])
      refine ti (show (bI (tru (stI σ d i) i)) = (bI (tru σ i)) from (congrArg bI (agS_tru hwf hag hd hm9 (by omega) c_16))) ?_
      refine jn_i (pcj := 44) (ls := ls) (st := [.int (nI ((88 + (8 * i)) + 6)), .ref sa]) (fun v9 => v9 = (nI (if tru σ i then 1 else 0))) ?_ (fun jn44 => ?_)
      · intro v9 hv9
        subst hv9
        refine va_iast hx hb hK hP hD hS 2 0 rfl rfl (vp_in_nI (n := ((88 + (8 * i)) + 6)) (by omega) (by omega)) dX8_settle_44 (fun H locs hP hD hS => ?_)
        rw [nI_clamp (n := ((88 + (8 * i)) + 6)) (by omega)] at hP hD
        rw [mS_up] at hP hD
        have hP : va_P g vwCl [(mo, .inr (6, [.int (nI rf), .ref a1, .int (nI z), .ref a2, .ref a3, .ref a4, .int (nI ac), .ref a5, .ref a6, .ref mw, .ref mh, .int (nI sp), .int (nI ou)])), aI cy mw 144 (mS wy), aI cy sa 248 (mS (up (stI σ d i) ((88 + (8 * i)) + 6) (if tru σ i then 1 else 0)))] H := hP
        have hD : va_D A [(mo, .inr (6, [.int (nI rf), .ref a1, .int (nI z), .ref a2, .ref a3, .ref a4, .int (nI ac), .ref a5, .ref a6, .ref mw, .ref mh, .int (nI sp), .int (nI ou)])), aI cy mw 144 (mS wy), aI cy sa 248 (mS (up (stI σ d i) ((88 + (8 * i)) + 6) (if tru σ i then 1 else 0)))] := hD
        have hag2 : agS σ (up (stI σ d i) (88 + 8 * i + 6) (if tru σ i then 1 else 0)) d := stU_ag (by split <;> omega) c_16
        refine lv_aload_n hx hb dX8_settle_45 rfl (lv_at hl 1 rfl) ?_
        refine lv_bipush (v := (nI 88)) hx hb dX8_settle_46 (by decide) ?_
        refine lv_bipush (v := (nI 8)) hx hb dX8_settle_48 (by decide) ?_
        refine lv_iload_n hx hb dX8_settle_50 rfl (lv_at hl 3 rfl) ?_
        refine lv_imul hx hb dX8_settle_51 ?_
        refine ti (pk_mul 8 i) ?_
        refine lv_iadd hx hb dX8_settle_52 ?_
        refine ti (nI_add 88 (8 * i)) ?_
        refine lv_bipush (v := (nI 7)) hx hb dX8_settle_53 (by decide) ?_
        refine lv_iadd hx hb dX8_settle_55 ?_
        refine ti (nI_add (88 + (8 * i)) 7) ?_
        refine lv_aload_n hx hb dX8_settle_56 rfl (lv_at hl 0 rfl) ?_
        refine lv_aload_n hx hb dX8_settle_57 rfl (lv_at hl 1 rfl) ?_
        refine lv_iload_n hx hb dX8_settle_58 rfl (lv_at hl 3 rfl) ?_
        refine rd_call (va_runV (As := [.ref sa, .int (nI i)]) (rest := [.int (nI ((88 + (8 * i)) + 7)), .ref sa]) ⟨hx, hb, hml, hown, hts⟩ (c_X8_isFraud l g cy mo a1 a2 a3 a4 a5 a6 mw mh sa H.size rf z ac sp ou wy (up (stI σ d i) ((88 + (8 * i)) + 6) (if tru σ i then 1 else 0)) bd i (WF_agS hwf hag2) (fun k hk => by rw [hwy k hk]; exact (D_cl (cmk_of (agS_st hag2)) k hk).symm) (by rw [hag2.lo (show 1 < 88 by omega)]; omega)) ⟨(cB 2 hts wd14_10 wd1_5 wd14_7 rfl rfl (by decide +kernel) ⟨Nat.le_of_ble_eq_true rfl, Nat.le_of_ble_eq_true rfl⟩), hts _ wd14_8, hts _ wd14_9⟩ (pv hK hP hD hS hA hX [0, 1, 2] rfl rfl 6 0 rfl rfl) rfl rfl hl.1 rfl (lv_room (Nat.le_of_ble_eq_true rfl)) dX8_settle_59 ⟨Nat.zero_le _, Nat.zero_le _⟩) ?_
        show W _ _ _ _ _ _ _ _ _ _ _ _ _ _ _ (F0 mX 62 ls [.int (bI (frd (up (stI σ d i) ((88 + (8 * i)) + 6) (if tru σ i then 1 else 0)) i)), .int (nI ((88 + (8 * i)) + 7)), .ref sa])
        refine ti (show (bI (frd (up (stI σ d i) ((88 + (8 * i)) + 6) (if tru σ i then 1 else 0)) i)) = (bI (frd σ i)) from (congrArg bI (agS_frd hwf hag2 hd hm9 (by omega) c_16))) ?_
        refine jn_i (pcj := 70) (ls := ls) (st := [.int (nI ((88 + (8 * i)) + 7)), .ref sa]) (fun v9 => v9 = (nI (if frd σ i then 1 else 0))) ?_ (fun jn70 => ?_)
        · intro v9 hv9
          subst hv9
          refine va_iast hx hb hK hP hD hS 2 0 rfl rfl (vp_in_nI (n := ((88 + (8 * i)) + 7)) (by omega) (by omega)) dX8_settle_70 (fun H locs hP hD hS => ?_)
          rw [nI_clamp (n := ((88 + (8 * i)) + 7)) (by omega)] at hP hD
          rw [mS_up] at hP hD
          have hP : va_P g vwCl [(mo, .inr (6, [.int (nI rf), .ref a1, .int (nI z), .ref a2, .ref a3, .ref a4, .int (nI ac), .ref a5, .ref a6, .ref mw, .ref mh, .int (nI sp), .int (nI ou)])), aI cy mw 144 (mS wy), aI cy sa 248 (mS (up (up (stI σ d i) ((88 + (8 * i)) + 6) (if tru σ i then 1 else 0)) ((88 + (8 * i)) + 7) (if frd σ i then 1 else 0)))] H := hP
          have hD : va_D A [(mo, .inr (6, [.int (nI rf), .ref a1, .int (nI z), .ref a2, .ref a3, .ref a4, .int (nI ac), .ref a5, .ref a6, .ref mw, .ref mh, .int (nI sp), .int (nI ou)])), aI cy mw 144 (mS wy), aI cy sa 248 (mS (up (up (stI σ d i) ((88 + (8 * i)) + 6) (if tru σ i then 1 else 0)) ((88 + (8 * i)) + 7) (if frd σ i then 1 else 0)))] := hD
          rw [show mS (up (up (stI σ d i) ((88 + (8 * i)) + 6) (if tru σ i then 1 else 0)) ((88 + (8 * i)) + 7) (if frd σ i then 1 else 0)) = (mS (stI σ d (i + 1))) from (congrArg mS (stI_s c_16))] at hP hD
          refine lv_iinc (v := (nI (i + 1))) (lv' := [(3, .int (nI (i + 1))), (0, .ref mo), (1, .ref sa), (2, .int (nI d))]) hx hb dX8_settle_71 hl (k := 3) rfl (nI_add i 1) (by decide) rfl (fun ls hl => ?_)
          refine lv_goto (tgt := 2) hx hb dX8_settle_74 (by decide) ?_
          exact ih2 (i + 1) H locs ls ⟨hP, hD, hS, lv_sub hl [1, 2, 3, 0] rfl, (by omega)⟩ (by first | omega | (dsimp only; omega))
        · skip
          refine lv_if_eq (tgt := 69) hx hb dX8_settle_62 (by decide) (fun c_62 => ?_) (fun c_62 => ?_)
          · have c_62 := (bI_eq0.mp c_62)
            refine lv_iconst (v := (nI 0)) hx hb dX8_settle_69 (by decide) ?_
            exact jn70 _ (congrArg nI (by simp [c_62]))
          · have c_62 := (bI_ne0.mp c_62)
            refine lv_iconst (v := (nI 1)) hx hb dX8_settle_65 (by decide) ?_
            refine lv_goto (tgt := 70) hx hb dX8_settle_66 (by decide) ?_
            exact jn70 _ (congrArg nI (by simp [c_62]))
      · skip
        refine lv_if_eq (tgt := 43) hx hb dX8_settle_36 (by decide) (fun c_36 => ?_) (fun c_36 => ?_)
        · have c_36 := (bI_eq0.mp c_36)
          refine lv_iconst (v := (nI 0)) hx hb dX8_settle_43 (by decide) ?_
          exact jn44 _ (congrArg nI (by simp [c_36]))
        · have c_36 := (bI_ne0.mp c_36)
          refine lv_iconst (v := (nI 1)) hx hb dX8_settle_39 (by decide) ?_
          refine lv_goto (tgt := 44) hx hb dX8_settle_40 (by decide) ?_
          exact jn44 _ (congrArg nI (by simp [c_36]))
set_option maxHeartbeats 4000000 in
set_option maxRecDepth 100000 in
theorem c_X8_findOn (l : Launch) (g : va_G) (cy : Nat → ClassId) (mo a1 a2 a3 a4 a5 a6 mw mh sa : Nat) (sz : Nat) (rf : Nat) (z : Nat) (ac : Nat) (sp : Nat) (ou : Nat) (wy : Nat → Nat) (σ : Nat → Nat) (bd : Nat) (w9 : Nat → Nat) (d : Nat) (fi : Nat) (c : Nat) (hwf : WF bd σ) (hd : d < σ 0) (hfi : fi < 8) (hc9 : c < 12) (hm9 : msg σ d = true) : Met l yX8_findOn (Cond.code yX8_findOn cX8_findOn 10 (some .int) :: wsL_law) ({ frames := 5, cells := 0, slots := 0, locals := 119 } : Room) (va_Pc [.ref mo, .ref sa, .int (nI d), .int (nI fi), .int (nI c)] (pr g cy [(mo, .inr (6, [.int (nI rf), .ref a1, .int (nI z), .ref a2, .ref a3, .ref a4, .int (nI ac), .ref a5, .ref a6, .ref mw, .ref mh, .int (nI sp), .int (nI ou)])), aI cy mw 144 (mS wy), aI cy mh 8 (mS w9), aI cy sa 248 (mS σ)] sz)) (wr_Q (fun _ : Unit => (some (.int (nI (shr σ d fi c fi))))) (fun _ : Unit => True) (fun _ : Unit => [(mo, .inr (6, [.int (nI rf), .ref a1, .int (nI z), .ref a2, .ref a3, .ref a4, .int (nI ac), .ref a5, .ref a6, .ref mw, .ref mh, .int (nI sp), .int (nI ou)])), aI cy mw 144 (mS (D σ)), aI cy mh 8 (mS (hOf σ d fi c)), aI cy sa 248 (mS (findS σ d fi c))]) g (va_A [(mo, .inr (6, [.int (nI rf), .ref a1, .int (nI z), .ref a2, .ref a3, .ref a4, .int (nI ac), .ref a5, .ref a6, .ref mw, .ref mh, .int (nI sp), .int (nI ou)])), aI cy mw 144 (mS wy), aI cy mh 8 (mS w9), aI cy sa 248 (mS σ)] sz)) 0 0 (va_A [(mo, .inr (6, [.int (nI rf), .ref a1, .int (nI z), .ref a2, .ref a3, .ref a4, .int (nI ac), .ref a5, .ref a6, .ref mw, .ref mh, .int (nI sp), .int (nI ou)])), aI cy mw 144 (mS wy), aI cy mh 8 (mS w9), aI cy sa 248 (mS σ)] sz) := by
  refine mt_of (cc := cX8_findOn) (maxL := 10) (ret := (some .int)) (by decide +kernel) (Nat.le_of_ble_eq_true rfl) ?_
  intro pX eX s mX below meth cX ls A hx hb hr hml hown hts hlk hin hsz hAe hA hP hD hK hX hl
  subst hsz
  rw [← hAe]
  clear hAe
  have hl : lv_has ls 10 [(0, .ref mo), (1, .ref sa), (2, .int (nI d)), (3, .int (nI fi)), (4, .int (nI c))] := hl
  have hS : va_S A s.heap s.heap [] := va_S.rf
  have hn0 := hwf.n0
  have hn1 := hwf.n1
  have hh2 := hwf.h2
  have hdb := hwf.db hd
  have hA9 := hwf.hA d c
  have hag := fp5_ag (σ := σ) (d := d) (fi := fi) (c := c)
  have hsg := stI_ag (σ := fp5 σ d fi c) (d := d) (i := σ 1)
  refine lv_aload_n hx hb dX8_findOn_0 rfl (lv_at hl 0 rfl) ?_
  refine lv_aload_n hx hb dX8_findOn_1 rfl (lv_at hl 1 rfl) ?_
  refine wr_call (wc := [(mo, .inr (6, [.int (nI rf), .ref a1, .int (nI z), .ref a2, .ref a3, .ref a4, .int (nI ac), .ref a5, .ref a6, .ref mw, .ref mh, .int (nI sp), .int (nI ou)])), aI cy mw 144 (mS wy), aI cy sa 248 (mS σ)]) (va_runV (As := [.ref sa]) (rest := []) ⟨hx, hb, hml, hown, hts⟩ (c_X8_measure l g cy mo a1 a2 a3 a4 a5 a6 mw mh sa s.heap.size rf z ac sp ou wy σ bd hwf) ⟨(cB 1 hts wd13_20 wd1_5 wd13_17 rfl rfl (by decide +kernel) ⟨Nat.le_of_ble_eq_true rfl, Nat.le_of_ble_eq_true rfl⟩), hts _ wd13_18, hts _ wd13_19⟩ (pv hK hP hD hS hA hX [0, 1, 3] rfl rfl 6 0 rfl rfl) rfl rfl hl.1 rfl (lv_room (Nat.le_of_ble_eq_true rfl)) dX8_findOn_2 ⟨Nat.zero_le _, Nat.zero_le _⟩) hP hD hS hA [0, 1, 3] rfl rfl (fun _ => (rfl : ([mo, mw, sa] : List Nat) = [mo, mw, sa])) ?_
  rintro _u9 H locs - hP hD hS
  have hP : va_P g vwCl [(mo, .inr (6, [.int (nI rf), .ref a1, .int (nI z), .ref a2, .ref a3, .ref a4, .int (nI ac), .ref a5, .ref a6, .ref mw, .ref mh, .int (nI sp), .int (nI ou)])), aI cy mw 144 (mS (D σ)), aI cy mh 8 (mS w9), aI cy sa 248 (mS σ)] H := hP
  have hD : va_D A [(mo, .inr (6, [.int (nI rf), .ref a1, .int (nI z), .ref a2, .ref a3, .ref a4, .int (nI ac), .ref a5, .ref a6, .ref mw, .ref mh, .int (nI sp), .int (nI ou)])), aI cy mw 144 (mS (D σ)), aI cy mh 8 (mS w9), aI cy sa 248 (mS σ)] := hD
  show W _ _ _ _ _ _ _ _ _ _ _ _ _ _ _ (F0 mX 5 ls [])
  refine lv_aload_n hx hb dX8_findOn_5 rfl (lv_at hl 0 rfl) ?_
  refine lv_aload_n hx hb dX8_findOn_6 rfl (lv_at hl 1 rfl) ?_
  refine lv_iload_n hx hb dX8_findOn_7 rfl (lv_at hl 2 rfl) ?_
  refine lv_iload_n hx hb dX8_findOn_8 rfl (lv_at hl 3 rfl) ?_
  refine lv_iload hx hb dX8_findOn_9 (lv_at hl 4 rfl) ?_
  refine wr_call (wc := [(mo, .inr (6, [.int (nI rf), .ref a1, .int (nI z), .ref a2, .ref a3, .ref a4, .int (nI ac), .ref a5, .ref a6, .ref mw, .ref mh, .int (nI sp), .int (nI ou)])), aI cy mw 144 (mS (D σ)), aI cy mh 8 (mS w9), aI cy sa 248 (mS σ)]) (va_runV (As := [.ref sa, .int (nI d), .int (nI fi), .int (nI c)]) (rest := []) ⟨hx, hb, hml, hown, hts⟩ (c_X8_helps l g cy mo a1 a2 a3 a4 a5 a6 mw mh sa H.size rf z ac sp ou (D σ) σ bd w9 d fi c hwf (fun _ _ => rfl) (by omega) (by omega) (by omega)) ⟨(cB 4 hts wd14_3 wd1_5 wd14_0 rfl rfl (by decide +kernel) ⟨Nat.le_of_ble_eq_true rfl, Nat.le_of_ble_eq_true rfl⟩), hts _ wd14_1, hts _ wd14_2⟩ (pv hK hP hD hS hA hX [0, 1, 2, 3] rfl rfl 6 0 rfl rfl) rfl rfl hl.1 rfl (lv_room (Nat.le_of_ble_eq_true rfl)) dX8_findOn_11 ⟨Nat.zero_le _, Nat.zero_le _⟩) hP hD hS hA [0, 1, 2, 3] rfl rfl (fun _ => (rfl : ([mo, mw, mh, sa] : List Nat) = [mo, mw, mh, sa])) ?_
  rintro _u9 H locs - hP hD hS
  have hP : va_P g vwCl [(mo, .inr (6, [.int (nI rf), .ref a1, .int (nI z), .ref a2, .ref a3, .ref a4, .int (nI ac), .ref a5, .ref a6, .ref mw, .ref mh, .int (nI sp), .int (nI ou)])), aI cy mw 144 (mS (D σ)), aI cy mh 8 (mS (hOf σ d fi c)), aI cy sa 248 (mS σ)] H := hP
  have hD : va_D A [(mo, .inr (6, [.int (nI rf), .ref a1, .int (nI z), .ref a2, .ref a3, .ref a4, .int (nI ac), .ref a5, .ref a6, .ref mw, .ref mh, .int (nI sp), .int (nI ou)])), aI cy mw 144 (mS (D σ)), aI cy mh 8 (mS (hOf σ d fi c)), aI cy sa 248 (mS σ)] := hD
  show W _ _ _ _ _ _ _ _ _ _ _ _ _ _ _ (F0 mX 14 ls [.int (nI (hAll σ d c))])
  refine lv_istore (lv' := [(5, .int (nI (hAll σ d c))), (0, .ref mo), (1, .ref sa), (2, .int (nI d)), (3, .int (nI fi)), (4, .int (nI c))]) hx hb dX8_findOn_14 hl (by decide) rfl (fun ls hl => ?_)
  refine lv_bipush (v := (nI 40)) hx hb dX8_findOn_16 (by decide) ?_
  refine lv_bipush (v := (nI 8)) hx hb dX8_findOn_18 (by decide) ?_
  refine lv_iload_n hx hb dX8_findOn_20 rfl (lv_at hl 3 rfl) ?_
  refine lv_imul hx hb dX8_findOn_21 ?_
  refine ti (pk_mul 8 d) ?_
  refine lv_iadd hx hb dX8_findOn_22 ?_
  refine ti (nI_add 40 (8 * d)) ?_
  refine lv_istore (lv' := [(6, .int (nI (40 + (8 * d)))), (5, .int (nI (hAll σ d c))), (0, .ref mo), (1, .ref sa), (2, .int (nI d)), (3, .int (nI fi)), (4, .int (nI c))]) hx hb dX8_findOn_23 hl (by decide) rfl (fun ls hl => ?_)
  refine lv_aload_n hx hb dX8_findOn_25 rfl (lv_at hl 3 rfl) ?_
  refine lv_iload hx hb dX8_findOn_26 (lv_at hl 0 rfl) ?_
  refine lv_iconst (v := (nI 4)) hx hb dX8_findOn_28 (by decide) ?_
  refine lv_iadd hx hb dX8_findOn_29 ?_
  refine ti (nI_add (40 + (8 * d)) 4) ?_
  refine va_iald hx hb hK hP 3 0 rfl rfl (vp_in_nI (n := ((40 + (8 * d)) + 4)) (by omega) (by omega)) dX8_findOn_30 ?_
  refine ti (show (mS σ) (nI ((40 + (8 * d)) + 4)).toNatClampNeg = nI (σ ((40 + (8 * d)) + 4)) from by rw [nI_clamp (by omega)]; rfl) ?_
  refine ti (show (nI (σ ((40 + (8 * d)) + 4))) = (nI (dg σ d 4)) from rfl) ?_
  refine lv_istore (lv' := [(7, .int (nI (dg σ d 4))), (6, .int (nI (40 + (8 * d)))), (5, .int (nI (hAll σ d c))), (0, .ref mo), (1, .ref sa), (2, .int (nI d)), (3, .int (nI fi)), (4, .int (nI c))]) hx hb dX8_findOn_31 hl (by decide) rfl (fun ls hl => ?_)
  refine lv_iconst (v := (nI 0)) hx hb dX8_findOn_33 (by decide) ?_
  refine lv_istore (lv' := [(8, .int (nI 0)), (7, .int (nI (dg σ d 4))), (6, .int (nI (40 + (8 * d)))), (5, .int (nI (hAll σ d c))), (0, .ref mo), (1, .ref sa), (2, .int (nI d)), (3, .int (nI fi)), (4, .int (nI c))]) hx hb dX8_findOn_34 hl (by decide) rfl (fun ls hl => ?_)
  rw [show (mS σ) = (mS (fpI σ d fi c 0)) from (congrArg mS fpI_0.symm)] at hP hD
  have hl : lv_has ls 10 [(8, .int (nI 0)), (7, .int (nI (dg σ d 4 - sm (shr σ d fi c) 0))), (6, .int (nI (40 + (8 * d)))), (5, .int (nI (hAll σ d c))), (0, .ref mo), (1, .ref sa), (2, .int (nI d)), (3, .int (nI fi)), (4, .int (nI c))] := by rw [← show (nI (dg σ d 4)) = (nI (dg σ d 4 - sm (shr σ d fi c) 0)) from rfl]; exact hl
  refine lp_rule (σ := (Nat)) (fun x9 H9 locs9 ls9 => va_P g vwCl [(mo, .inr (6, [.int (nI rf), .ref a1, .int (nI z), .ref a2, .ref a3, .ref a4, .int (nI ac), .ref a5, .ref a6, .ref mw, .ref mh, .int (nI sp), .int (nI ou)])), aI cy mw 144 (mS (D σ)), aI cy mh 8 (mS (hOf σ d fi c)), aI cy sa 248 (mS (fpI σ d fi c x9))] H9 ∧ va_D A [(mo, .inr (6, [.int (nI rf), .ref a1, .int (nI z), .ref a2, .ref a3, .ref a4, .int (nI ac), .ref a5, .ref a6, .ref mw, .ref mh, .int (nI sp), .int (nI ou)])), aI cy mw 144 (mS (D σ)), aI cy mh 8 (mS (hOf σ d fi c)), aI cy sa 248 (mS (fpI σ d fi c x9))] ∧ va_S A s.heap H9 locs9 ∧ lv_has ls9 10 [(0, .ref mo), (1, .ref sa), (2, .int (nI d)), (3, .int (nI fi)), (4, .int (nI c)), (5, .int (nI (hAll σ d c))), (6, .int (nI (40 + 8 * d))), (7, .int (nI (dg σ d 4 - sm (shr σ d fi c) x9))), (8, .int (nI x9))] ∧ (x9 ≤ 8)) (fun x9 => 8 - x9) (0) ⟨hP, hD, hS, lv_sub hl [4, 5, 6, 7, 8, 3, 2, 1, 0] rfl, (by omega)⟩ ?_
  rintro i H locs ls ⟨hP, hD, hS, hl, hi⟩ ih36
  try dsimp only at hl hi hP hD ih36
  refine lv_iload hx hb dX8_findOn_36 (lv_at hl 8 rfl) ?_
  refine lv_bipush (v := (nI 8)) hx hb dX8_findOn_38 (by decide) ?_
  refine lv_icmp_ge (tgt := 95) hx hb dX8_findOn_40 (by decide) (fun c_40 => ?_) (fun c_40 => ?_)
  · have c_40 := (nc_le (by omega) (by omega) c_40)
    have e9 : i = 8 := by omega
    subst e9
    refine lv_aload_n hx hb dX8_findOn_95 rfl (lv_at hl 1 rfl) ?_
    refine lv_iconst (v := (nI 5)) hx hb dX8_findOn_96 (by decide) ?_
    refine lv_dup2_11 hx hb dX8_findOn_97 rfl rfl ?_
    refine va_iald hx hb hK hP 3 0 rfl rfl (vp_in_nI (n := 5) (by omega) (by omega)) dX8_findOn_98 ?_
    refine ti (show (mS (fpI σ d fi c 8)) (nI 5).toNatClampNeg = nI ((fpI σ d fi c 8) 5) from by rw [nI_clamp (by omega)]; rfl) ?_
    refine ti (show (nI ((fpI σ d fi c 8) 5)) = (nI (σ 5)) from rfl) ?_
    refine lv_iload hx hb dX8_findOn_99 (lv_at hl 7 rfl) ?_
    refine lv_iadd hx hb dX8_findOn_101 ?_
    refine ti (nI_add (σ 5) (dg σ d 4 - sm (shr σ d fi c) 8)) ?_
    refine va_iast hx hb hK hP hD hS 3 0 rfl rfl (vp_in_nI (n := 5) (by omega) (by omega)) dX8_findOn_102 (fun H locs hP hD hS => ?_)
    rw [nI_clamp (n := 5) (by omega)] at hP hD
    rw [mS_up] at hP hD
    have hP : va_P g vwCl [(mo, .inr (6, [.int (nI rf), .ref a1, .int (nI z), .ref a2, .ref a3, .ref a4, .int (nI ac), .ref a5, .ref a6, .ref mw, .ref mh, .int (nI sp), .int (nI ou)])), aI cy mw 144 (mS (D σ)), aI cy mh 8 (mS (hOf σ d fi c)), aI cy sa 248 (mS (up (fpI σ d fi c 8) 5 ((σ 5) + (dg σ d 4 - sm (shr σ d fi c) 8))))] H := hP
    have hD : va_D A [(mo, .inr (6, [.int (nI rf), .ref a1, .int (nI z), .ref a2, .ref a3, .ref a4, .int (nI ac), .ref a5, .ref a6, .ref mw, .ref mh, .int (nI sp), .int (nI ou)])), aI cy mw 144 (mS (D σ)), aI cy mh 8 (mS (hOf σ d fi c)), aI cy sa 248 (mS (up (fpI σ d fi c 8) 5 ((σ 5) + (dg σ d 4 - sm (shr σ d fi c) 8))))] := hD
    rw [show mS (up (fpI σ d fi c 8) 5 ((σ 5) + (dg σ d 4 - sm (shr σ d fi c) 8))) = (mS (fp5 σ d fi c)) from rfl] at hP hD
    refine lv_aload_n hx hb dX8_findOn_103 rfl (lv_at hl 0 rfl) ?_
    refine lv_aload_n hx hb dX8_findOn_104 rfl (lv_at hl 1 rfl) ?_
    refine lv_iload_n hx hb dX8_findOn_105 rfl (lv_at hl 2 rfl) ?_
    refine wr_call (wc := [(mo, .inr (6, [.int (nI rf), .ref a1, .int (nI z), .ref a2, .ref a3, .ref a4, .int (nI ac), .ref a5, .ref a6, .ref mw, .ref mh, .int (nI sp), .int (nI ou)])), aI cy mw 144 (mS (D σ)), aI cy sa 248 (mS (fp5 σ d fi c))]) (va_runV (As := [.ref sa, .int (nI d)]) (rest := []) ⟨hx, hb, hml, hown, hts⟩ (c_X8_settle l g cy mo a1 a2 a3 a4 a5 a6 mw mh sa H.size rf z ac sp ou (D σ) (fp5 σ d fi c) bd d (WF_agP hwf hag) (fun k hk => (D_cl (cmk_of (fun i h1 h2 => hag.e (by omega) (by omega) (by omega))) k hk).symm) (by rw [hag.e (show 0 ≠ 4 by omega) (by omega) (by omega)]; exact hd) (by rw [agP_msg hag]; exact hm9)) ⟨(cB 2 hts wd15_2 wd1_5 wd14_23 rfl rfl (by decide +kernel) ⟨Nat.le_of_ble_eq_true rfl, Nat.le_of_ble_eq_true rfl⟩), hts _ wd15_0, hts _ wd15_1⟩ (pv hK hP hD hS hA hX [0, 1, 3] rfl rfl 6 0 rfl rfl) rfl rfl hl.1 rfl (lv_room (Nat.le_of_ble_eq_true rfl)) dX8_findOn_106 ⟨Nat.zero_le _, Nat.zero_le _⟩) hP hD hS hA [0, 1, 3] rfl rfl (fun _ => (rfl : ([mo, mw, sa] : List Nat) = [mo, mw, sa])) ?_
    rintro _u9 H locs - hP hD hS
    have hP : va_P g vwCl [(mo, .inr (6, [.int (nI rf), .ref a1, .int (nI z), .ref a2, .ref a3, .ref a4, .int (nI ac), .ref a5, .ref a6, .ref mw, .ref mh, .int (nI sp), .int (nI ou)])), aI cy mw 144 (mS (D σ)), aI cy mh 8 (mS (hOf σ d fi c)), aI cy sa 248 (mS (stI (fp5 σ d fi c) d ((fp5 σ d fi c) 1)))] H := hP
    have hD : va_D A [(mo, .inr (6, [.int (nI rf), .ref a1, .int (nI z), .ref a2, .ref a3, .ref a4, .int (nI ac), .ref a5, .ref a6, .ref mw, .ref mh, .int (nI sp), .int (nI ou)])), aI cy mw 144 (mS (D σ)), aI cy mh 8 (mS (hOf σ d fi c)), aI cy sa 248 (mS (stI (fp5 σ d fi c) d ((fp5 σ d fi c) 1)))] := hD
    show W _ _ _ _ _ _ _ _ _ _ _ _ _ _ _ (F0 mX 109 ls [])
    rw [show (mS (stI (fp5 σ d fi c) d ((fp5 σ d fi c) 1))) = (mS (stI (fp5 σ d fi c) d (σ 1))) from rfl] at hP hD
    refine lv_aload_n hx hb dX8_findOn_109 rfl (lv_at hl 1 rfl) ?_
    refine lv_iload hx hb dX8_findOn_110 (lv_at hl 6 rfl) ?_
    refine lv_iconst (v := (nI 5)) hx hb dX8_findOn_112 (by decide) ?_
    refine lv_iadd hx hb dX8_findOn_113 ?_
    refine ti (nI_add (40 + 8 * d) 5) ?_
    refine lv_iload hx hb dX8_findOn_114 (lv_at hl 4 rfl) ?_
    refine va_iast hx hb hK hP hD hS 3 0 rfl rfl (vp_in_nI (n := ((40 + 8 * d) + 5)) (by omega) (by omega)) dX8_findOn_116 (fun H locs hP hD hS => ?_)
    rw [nI_clamp (n := ((40 + 8 * d) + 5)) (by omega)] at hP hD
    rw [mS_up] at hP hD
    have hP : va_P g vwCl [(mo, .inr (6, [.int (nI rf), .ref a1, .int (nI z), .ref a2, .ref a3, .ref a4, .int (nI ac), .ref a5, .ref a6, .ref mw, .ref mh, .int (nI sp), .int (nI ou)])), aI cy mw 144 (mS (D σ)), aI cy mh 8 (mS (hOf σ d fi c)), aI cy sa 248 (mS (up (stI (fp5 σ d fi c) d (σ 1)) ((40 + 8 * d) + 5) c))] H := hP
    have hD : va_D A [(mo, .inr (6, [.int (nI rf), .ref a1, .int (nI z), .ref a2, .ref a3, .ref a4, .int (nI ac), .ref a5, .ref a6, .ref mw, .ref mh, .int (nI sp), .int (nI ou)])), aI cy mw 144 (mS (D σ)), aI cy mh 8 (mS (hOf σ d fi c)), aI cy sa 248 (mS (up (stI (fp5 σ d fi c) d (σ 1)) ((40 + 8 * d) + 5) c))] := hD
    refine lv_aload_n hx hb dX8_findOn_117 rfl (lv_at hl 1 rfl) ?_
    refine lv_iload hx hb dX8_findOn_118 (lv_at hl 6 rfl) ?_
    refine lv_bipush (v := (nI 6)) hx hb dX8_findOn_120 (by decide) ?_
    refine lv_iadd hx hb dX8_findOn_122 ?_
    refine ti (nI_add (40 + 8 * d) 6) ?_
    refine lv_iload_n hx hb dX8_findOn_123 rfl (lv_at hl 3 rfl) ?_
    refine va_iast hx hb hK hP hD hS 3 0 rfl rfl (vp_in_nI (n := ((40 + 8 * d) + 6)) (by omega) (by omega)) dX8_findOn_124 (fun H locs hP hD hS => ?_)
    rw [nI_clamp (n := ((40 + 8 * d) + 6)) (by omega)] at hP hD
    rw [mS_up] at hP hD
    have hP : va_P g vwCl [(mo, .inr (6, [.int (nI rf), .ref a1, .int (nI z), .ref a2, .ref a3, .ref a4, .int (nI ac), .ref a5, .ref a6, .ref mw, .ref mh, .int (nI sp), .int (nI ou)])), aI cy mw 144 (mS (D σ)), aI cy mh 8 (mS (hOf σ d fi c)), aI cy sa 248 (mS (up (up (stI (fp5 σ d fi c) d (σ 1)) ((40 + 8 * d) + 5) c) ((40 + 8 * d) + 6) fi))] H := hP
    have hD : va_D A [(mo, .inr (6, [.int (nI rf), .ref a1, .int (nI z), .ref a2, .ref a3, .ref a4, .int (nI ac), .ref a5, .ref a6, .ref mw, .ref mh, .int (nI sp), .int (nI ou)])), aI cy mw 144 (mS (D σ)), aI cy mh 8 (mS (hOf σ d fi c)), aI cy sa 248 (mS (up (up (stI (fp5 σ d fi c) d (σ 1)) ((40 + 8 * d) + 5) c) ((40 + 8 * d) + 6) fi))] := hD
    refine lv_aload_n hx hb dX8_findOn_125 rfl (lv_at hl 1 rfl) ?_
    refine lv_iload hx hb dX8_findOn_126 (lv_at hl 6 rfl) ?_
    refine lv_bipush (v := (nI 7)) hx hb dX8_findOn_128 (by decide) ?_
    refine lv_iadd hx hb dX8_findOn_130 ?_
    refine ti (nI_add (40 + 8 * d) 7) ?_
    refine lv_aload_n hx hb dX8_findOn_131 rfl (lv_at hl 1 rfl) ?_
    refine lv_iconst (v := (nI 2)) hx hb dX8_findOn_132 (by decide) ?_
    refine va_iald hx hb hK hP 3 0 rfl rfl (vp_in_nI (n := 2) (by omega) (by omega)) dX8_findOn_133 ?_
    refine ti (show (mS (up (up (stI (fp5 σ d fi c) d (σ 1)) ((40 + 8 * d) + 5) c) ((40 + 8 * d) + 6) fi)) (nI 2).toNatClampNeg = nI ((up (up (stI (fp5 σ d fi c) d (σ 1)) ((40 + 8 * d) + 5) c) ((40 + 8 * d) + 6) fi) 2) from by rw [nI_clamp (by omega)]; rfl) ?_
    refine ti (show (nI ((up (up (stI (fp5 σ d fi c) d (σ 1)) ((40 + 8 * d) + 5) c) ((40 + 8 * d) + 6) fi) 2)) = (nI (σ 2)) from (congrArg nI (by rw [up_n (by omega), up_n (by omega), hsg.lo (by omega)]; exact hag.e (by omega) (by omega) (by omega)))) ?_
    refine va_iast hx hb hK hP hD hS 3 0 rfl rfl (vp_in_nI (n := ((40 + 8 * d) + 7)) (by omega) (by omega)) dX8_findOn_134 (fun H locs hP hD hS => ?_)
    rw [nI_clamp (n := ((40 + 8 * d) + 7)) (by omega)] at hP hD
    rw [mS_up] at hP hD
    have hP : va_P g vwCl [(mo, .inr (6, [.int (nI rf), .ref a1, .int (nI z), .ref a2, .ref a3, .ref a4, .int (nI ac), .ref a5, .ref a6, .ref mw, .ref mh, .int (nI sp), .int (nI ou)])), aI cy mw 144 (mS (D σ)), aI cy mh 8 (mS (hOf σ d fi c)), aI cy sa 248 (mS (up (up (up (stI (fp5 σ d fi c) d (σ 1)) ((40 + 8 * d) + 5) c) ((40 + 8 * d) + 6) fi) ((40 + 8 * d) + 7) (σ 2)))] H := hP
    have hD : va_D A [(mo, .inr (6, [.int (nI rf), .ref a1, .int (nI z), .ref a2, .ref a3, .ref a4, .int (nI ac), .ref a5, .ref a6, .ref mw, .ref mh, .int (nI sp), .int (nI ou)])), aI cy mw 144 (mS (D σ)), aI cy mh 8 (mS (hOf σ d fi c)), aI cy sa 248 (mS (up (up (up (stI (fp5 σ d fi c) d (σ 1)) ((40 + 8 * d) + 5) c) ((40 + 8 * d) + 6) fi) ((40 + 8 * d) + 7) (σ 2)))] := hD
    rw [show mS (up (up (up (stI (fp5 σ d fi c) d (σ 1)) ((40 + 8 * d) + 5) c) ((40 + 8 * d) + 6) fi) ((40 + 8 * d) + 7) (σ 2)) = (mS (findS σ d fi c)) from (congrArg mS (findU hwf hd))] at hP hD
    have hO9 := hwf.hO d fi c fi
    have hmul : dg σ d 4 * hOf σ d fi c fi ≤ 20000000 := mul_le_of (show dg σ d 4 ≤ 210000 by omega) hO9 (by decide)
    refine lv_aload_n hx hb dX8_findOn_135 rfl (lv_at hl 1 rfl) ?_
    refine lv_iload hx hb dX8_findOn_136 (lv_at hl 6 rfl) ?_
    refine lv_iconst (v := (nI 4)) hx hb dX8_findOn_138 (by decide) ?_
    refine lv_iadd hx hb dX8_findOn_139 ?_
    refine ti (nI_add (40 + 8 * d) 4) ?_
    refine va_iald hx hb hK hP 3 0 rfl rfl (vp_in_nI (n := ((40 + 8 * d) + 4)) (by omega) (by omega)) dX8_findOn_140 ?_
    refine ti (show (mS (findS σ d fi c)) (nI ((40 + 8 * d) + 4)).toNatClampNeg = nI ((findS σ d fi c) ((40 + 8 * d) + 4)) from by rw [nI_clamp (by omega)]; rfl) ?_
    refine ti (show (nI ((findS σ d fi c) ((40 + 8 * d) + 4))) = (nI (dg σ d 4)) from (congrArg nI (show dg (findS σ d fi c) d 4 = dg σ d 4 by rw [findS_dg (by omega) (by decide), if_pos rfl, if_neg (by decide), if_neg (by decide), if_neg (by decide)]))) ?_
    refine lv_aload_n hx hb dX8_findOn_141 rfl (lv_at hl 0 rfl) ?_
    refine va_get (D := g) (ci := 6) (v := .ref mh) (C := RX8) (T := TX8) (N := 13) hx hb hts bgX8 hown hK hP 0 rfl rfl 10 (by decide) (hts _ wd6_3) (fun _ h9 => h9) rfl dX8_findOn_142 ?_
    refine lv_iload_n hx hb dX8_findOn_145 rfl (lv_at hl 3 rfl) ?_
    refine va_iald hx hb hK hP 2 0 rfl rfl (vp_in_nI (n := fi) (by omega) (by omega)) dX8_findOn_146 ?_
    refine ti (show (mS (hOf σ d fi c)) (nI fi).toNatClampNeg = nI ((hOf σ d fi c) fi) from by rw [nI_clamp (by omega)]; rfl) ?_
    refine lv_imul hx hb dX8_findOn_147 ?_
    refine ti (pk_mul (dg σ d 4) ((hOf σ d fi c) fi)) ?_
    refine lv_iload hx hb dX8_findOn_148 (lv_at hl 5 rfl) ?_
    refine lv_idiv hx hb dX8_findOn_150 (nI_ne0 (by omega) (by omega)) ?_
    refine ti (pk_div (a := ((dg σ d 4) * ((hOf σ d fi c) fi))) (d := (hAll σ d c)) (by omega) (by omega) (by omega)) ?_
    refine ti (show (nI (((dg σ d 4) * ((hOf σ d fi c) fi)) / (hAll σ d c))) = (nI (shr σ d fi c fi)) from rfl) ?_
    exact wr_i () rfl trivial hP hS hx hb hr dX8_findOn_151 hlk
  · have c_40 := (nc_nle (by omega) (by omega) c_40)
    have hO9 := hwf.hO d fi c i
    have hmul : dg σ d 4 * hOf σ d fi c i ≤ 20000000 := mul_le_of (show dg σ d 4 ≤ 210000 by omega) hO9 (by decide)
    refine lv_aload_n hx hb dX8_findOn_43 rfl (lv_at hl 1 rfl) ?_
    refine lv_iload hx hb dX8_findOn_44 (lv_at hl 6 rfl) ?_
    refine lv_iconst (v := (nI 4)) hx hb dX8_findOn_46 (by decide) ?_
    refine lv_iadd hx hb dX8_findOn_47 ?_
    refine ti (nI_add (40 + 8 * d) 4) ?_
    refine va_iald hx hb hK hP 3 0 rfl rfl (vp_in_nI (n := ((40 + 8 * d) + 4)) (by omega) (by omega)) dX8_findOn_48 ?_
    refine ti (show (mS (fpI σ d fi c i)) (nI ((40 + 8 * d) + 4)).toNatClampNeg = nI ((fpI σ d fi c i) ((40 + 8 * d) + 4)) from by rw [nI_clamp (by omega)]; rfl) ?_
    refine ti (show (nI ((fpI σ d fi c i) ((40 + 8 * d) + 4))) = (nI (dg σ d 4)) from (congrArg nI (fpI_hi (by omega) (by omega)))) ?_
    refine lv_aload_n hx hb dX8_findOn_49 rfl (lv_at hl 0 rfl) ?_
    refine va_get (D := g) (ci := 6) (v := .ref mh) (C := RX8) (T := TX8) (N := 13) hx hb hts bgX8 hown hK hP 0 rfl rfl 10 (by decide) (hts _ wd6_3) (fun _ h9 => h9) rfl dX8_findOn_50 ?_
    refine lv_iload hx hb dX8_findOn_53 (lv_at hl 8 rfl) ?_
    refine va_iald hx hb hK hP 2 0 rfl rfl (vp_in_nI (n := i) (by omega) (by omega)) dX8_findOn_55 ?_
    refine ti (show (mS (hOf σ d fi c)) (nI i).toNatClampNeg = nI ((hOf σ d fi c) i) from by rw [nI_clamp (by omega)]; rfl) ?_
    refine lv_imul hx hb dX8_findOn_56 ?_
    refine ti (pk_mul (dg σ d 4) ((hOf σ d fi c) i)) ?_
    refine lv_iload hx hb dX8_findOn_57 (lv_at hl 5 rfl) ?_
    refine lv_idiv hx hb dX8_findOn_59 (nI_ne0 (by omega) (by omega)) ?_
    refine ti (pk_div (a := ((dg σ d 4) * ((hOf σ d fi c) i))) (d := (hAll σ d c)) (by omega) (by omega) (by omega)) ?_
    refine ti (show (nI (((dg σ d 4) * ((hOf σ d fi c) i)) / (hAll σ d c))) = (nI (shr σ d fi c i)) from rfl) ?_
    refine lv_istore (lv' := [(9, .int (nI (shr σ d fi c i))), (0, .ref mo), (1, .ref sa), (2, .int (nI d)), (3, .int (nI fi)), (4, .int (nI c)), (5, .int (nI (hAll σ d c))), (6, .int (nI (40 + 8 * d))), (7, .int (nI (dg σ d 4 - sm (shr σ d fi c) i))), (8, .int (nI i))]) hx hb dX8_findOn_60 hl (by decide) rfl (fun ls hl => ?_)
    refine lv_aload_n hx hb dX8_findOn_62 rfl (lv_at hl 2 rfl) ?_
    refine lv_bipush (v := (nI 8)) hx hb dX8_findOn_63 (by decide) ?_
    refine lv_iload hx hb dX8_findOn_65 (lv_at hl 9 rfl) ?_
    refine lv_iadd hx hb dX8_findOn_67 ?_
    refine ti (nI_add 8 i) ?_
    refine lv_dup2_11 hx hb dX8_findOn_68 rfl rfl ?_
    refine va_iald hx hb hK hP 3 0 rfl rfl (vp_in_nI (n := (8 + i)) (by omega) (by omega)) dX8_findOn_69 ?_
    refine ti (show (mS (fpI σ d fi c i)) (nI (8 + i)).toNatClampNeg = nI ((fpI σ d fi c i) (8 + i)) from by rw [nI_clamp (by omega)]; rfl) ?_
    refine lv_iload hx hb dX8_findOn_70 (lv_at hl 0 rfl) ?_
    refine lv_iadd hx hb dX8_findOn_72 ?_
    refine ti (nI_add ((fpI σ d fi c i) (8 + i)) (shr σ d fi c i)) ?_
    refine va_iast hx hb hK hP hD hS 3 0 rfl rfl (vp_in_nI (n := (8 + i)) (by omega) (by omega)) dX8_findOn_73 (fun H locs hP hD hS => ?_)
    rw [nI_clamp (n := (8 + i)) (by omega)] at hP hD
    rw [mS_up] at hP hD
    have hP : va_P g vwCl [(mo, .inr (6, [.int (nI rf), .ref a1, .int (nI z), .ref a2, .ref a3, .ref a4, .int (nI ac), .ref a5, .ref a6, .ref mw, .ref mh, .int (nI sp), .int (nI ou)])), aI cy mw 144 (mS (D σ)), aI cy mh 8 (mS (hOf σ d fi c)), aI cy sa 248 (mS (up (fpI σ d fi c i) (8 + i) (((fpI σ d fi c i) (8 + i)) + (shr σ d fi c i))))] H := hP
    have hD : va_D A [(mo, .inr (6, [.int (nI rf), .ref a1, .int (nI z), .ref a2, .ref a3, .ref a4, .int (nI ac), .ref a5, .ref a6, .ref mw, .ref mh, .int (nI sp), .int (nI ou)])), aI cy mw 144 (mS (D σ)), aI cy mh 8 (mS (hOf σ d fi c)), aI cy sa 248 (mS (up (fpI σ d fi c i) (8 + i) (((fpI σ d fi c i) (8 + i)) + (shr σ d fi c i))))] := hD
    refine lv_aload_n hx hb dX8_findOn_74 rfl (lv_at hl 2 rfl) ?_
    refine lv_iconst (v := (nI 4)) hx hb dX8_findOn_75 (by decide) ?_
    refine lv_dup2_11 hx hb dX8_findOn_76 rfl rfl ?_
    refine va_iald hx hb hK hP 3 0 rfl rfl (vp_in_nI (n := 4) (by omega) (by omega)) dX8_findOn_77 ?_
    refine ti (show (mS (up (fpI σ d fi c i) (8 + i) (((fpI σ d fi c i) (8 + i)) + (shr σ d fi c i)))) (nI 4).toNatClampNeg = nI ((up (fpI σ d fi c i) (8 + i) (((fpI σ d fi c i) (8 + i)) + (shr σ d fi c i))) 4) from by rw [nI_clamp (by omega)]; rfl) ?_
    refine ti (show (nI ((up (fpI σ d fi c i) (8 + i) (((fpI σ d fi c i) (8 + i)) + (shr σ d fi c i))) 4)) = (nI (fpI σ d fi c i 4)) from (congrArg nI (up_n (by omega)))) ?_
    refine lv_iload hx hb dX8_findOn_78 (lv_at hl 0 rfl) ?_
    refine lv_iadd hx hb dX8_findOn_80 ?_
    refine ti (nI_add (fpI σ d fi c i 4) (shr σ d fi c i)) ?_
    refine va_iast hx hb hK hP hD hS 3 0 rfl rfl (vp_in_nI (n := 4) (by omega) (by omega)) dX8_findOn_81 (fun H locs hP hD hS => ?_)
    rw [nI_clamp (n := 4) (by omega)] at hP hD
    rw [mS_up] at hP hD
    have hP : va_P g vwCl [(mo, .inr (6, [.int (nI rf), .ref a1, .int (nI z), .ref a2, .ref a3, .ref a4, .int (nI ac), .ref a5, .ref a6, .ref mw, .ref mh, .int (nI sp), .int (nI ou)])), aI cy mw 144 (mS (D σ)), aI cy mh 8 (mS (hOf σ d fi c)), aI cy sa 248 (mS (up (up (fpI σ d fi c i) (8 + i) (((fpI σ d fi c i) (8 + i)) + (shr σ d fi c i))) 4 ((fpI σ d fi c i 4) + (shr σ d fi c i))))] H := hP
    have hD : va_D A [(mo, .inr (6, [.int (nI rf), .ref a1, .int (nI z), .ref a2, .ref a3, .ref a4, .int (nI ac), .ref a5, .ref a6, .ref mw, .ref mh, .int (nI sp), .int (nI ou)])), aI cy mw 144 (mS (D σ)), aI cy mh 8 (mS (hOf σ d fi c)), aI cy sa 248 (mS (up (up (fpI σ d fi c i) (8 + i) (((fpI σ d fi c i) (8 + i)) + (shr σ d fi c i))) 4 ((fpI σ d fi c i 4) + (shr σ d fi c i))))] := hD
    rw [show mS (up (up (fpI σ d fi c i) (8 + i) (((fpI σ d fi c i) (8 + i)) + (shr σ d fi c i))) 4 ((fpI σ d fi c i 4) + (shr σ d fi c i))) = (mS (fpI σ d fi c (i + 1))) from (congrArg mS fpI_s)] at hP hD
    refine lv_iload hx hb dX8_findOn_82 (lv_at hl 8 rfl) ?_
    have hle9 := shr_le (d := d) (c := c) (k := i + 1) hwf hfi (by omega)
    have hle8 : sm (shr σ d fi c) (i + 1) = sm (shr σ d fi c) i + shr σ d fi c i := rfl
    refine lv_iload hx hb dX8_findOn_84 (lv_at hl 0 rfl) ?_
    refine lv_isub hx hb dX8_findOn_86 ?_
    refine ti (show ((nI (dg σ d 4 - sm (shr σ d fi c) i)) - (nI (shr σ d fi c i))) = (nI (dg σ d 4 - sm (shr σ d fi c) (i + 1))) from (by rw [pk_sub (by omega), Nat.sub_sub]; rfl)) ?_
    refine lv_istore (lv' := [(7, .int (nI (dg σ d 4 - sm (shr σ d fi c) (i + 1)))), (9, .int (nI (shr σ d fi c i))), (0, .ref mo), (1, .ref sa), (2, .int (nI d)), (3, .int (nI fi)), (4, .int (nI c)), (5, .int (nI (hAll σ d c))), (6, .int (nI (40 + 8 * d))), (8, .int (nI i))]) hx hb dX8_findOn_87 hl (by decide) rfl (fun ls hl => ?_)
    refine lv_iinc (v := (nI (i + 1))) (lv' := [(8, .int (nI (i + 1))), (7, .int (nI (dg σ d 4 - sm (shr σ d fi c) (i + 1)))), (9, .int (nI (shr σ d fi c i))), (0, .ref mo), (1, .ref sa), (2, .int (nI d)), (3, .int (nI fi)), (4, .int (nI c)), (5, .int (nI (hAll σ d c))), (6, .int (nI (40 + 8 * d)))]) hx hb dX8_findOn_89 hl (k := 9) rfl (nI_add i 1) (by decide) rfl (fun ls hl => ?_)
    refine lv_goto (tgt := 36) hx hb dX8_findOn_92 (by decide) ?_
    exact ih36 (i + 1) H locs ls ⟨hP, hD, hS, lv_sub hl [3, 4, 5, 6, 7, 8, 9, 1, 0] rfl, (by omega)⟩ (by first | omega | (dsimp only; omega))
