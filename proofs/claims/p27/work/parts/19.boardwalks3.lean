set_option maxHeartbeats 4000000 in
set_option maxRecDepth 100000 in
theorem c_X0_numberOfSighting (l : Launch) (g : va_G) (cy : Nat → ClassId) (sz : Nat) (a : Nat → Nat) (σ : Nat → Nat) (b : Nat → Nat → Int32) (bd : Nat) (s9 : Nat) (w9 : Nat) (hwf : WF bd σ) (hbr : BR σ b) (hs9 : s9 < σ 1) (hw9 : w9 ≤ 8) : Met l yX0_numberOfSighting (Cond.code yX0_numberOfSighting cX0_numberOfSighting 4 (some .int) :: wsL_law) ({ frames := 3, cells := 0, slots := 0, locals := 76 } : Room) (va_Pc [.ref (a 0), .int (nI s9), .int (nI w9)] (pr g cy [(a 0, .inr (0, [.ref (a 1), .ref (a 4), .ref (a 6), .ref (a 8), .ref (a 9), .int (nI (σ 2)), .int (nI (σ 3)), .int (nI (σ 4)), .int (nI (σ 5)), .int (nI (σ 6)), .int (nI (σ 7))])), (a 1, .inr (2, [.ref (a 2), .ref (a 3), .int (nI (cmk σ))])), aI cy (a 2) 144 (wv σ), aI cy (a 3) 12 (b 1), (a 4, .inr (3, [.int (nI 6), .int (nI 11), .ref (a 5), .int (nI (σ 0))])), aI cy (a 5) 66 (b 2), (a 6, .inr (3, [.int (nI 20), .int (nI 6), .ref (a 7), .int (nI (σ 1))])), aI cy (a 7) 120 (b 3), aI cy (a 8) 8 (mS (pu σ)), aI cy (a 9) 6 (b 5)] sz)) (rd_Q (some (.int (nI (nsg σ s9 w9))))) 0 0 (nF) := by
  refine mt_of (cc := cX0_numberOfSighting) (maxL := 4) (ret := (some .int)) (by decide +kernel) (Nat.le_of_ble_eq_true rfl) ?_
  intro pX eX s mX below meth cX ls A hx hb hr hml hown hts hlk hin hsz hAe hA hP hD hK hX hl
  have hl : lv_has ls 4 [(0, .ref (a 0)), (1, .int (nI s9)), (2, .int (nI w9))] := hl
  have hS : va_S A s.heap s.heap [] := va_S.rf
  have hn0 := hwf.n0
  have hn1 := hwf.n1
  have hh2 := hwf.h2
  have hk20 : ∀ q, mk q (σ 1) < 2 ^ 20 := fun q => Nat.lt_of_lt_of_le (mk_lt q (σ 1)) (Nat.pow_le_pow_right (by decide) hn1)
  have hsb := hwf.sb hs9
  have hk1 := hk20 (trD σ (sg σ s9 5))
  have hk2 := hk20 (frD σ (sg σ s9 5))
  refine lv_aload_n hx hb dX0_numberOfSighting_0 rfl (lv_at hl 0 rfl) ?_
  refine va_get (D := g) (ci := 0) (v := .ref (a 6)) (C := RX0) (T := TX0) (N := 11) hx hb hts bgX0 hown hK hP 0 rfl rfl 2 (by decide) (hts _ wd2_13) (fun _ h9 => h9) rfl dX0_numberOfSighting_1 ?_
  refine lv_iload_n hx hb dX0_numberOfSighting_4 rfl (lv_at hl 1 rfl) ?_
  refine lv_iconst (v := (nI 5)) hx hb dX0_numberOfSighting_5 (by decide) ?_
  refine rd_call (va_runV (As := [.int (nI s9), .int (nI 5)]) (rest := []) ⟨hx, hb, hml, hown, hts⟩ (c_X3_get l g cy (a 6) (a 7) s.heap.size 20 6 120 (b 3) (σ 1) (nI s9) 5 (by omega) (by omega) (by omega) (by omega) (by omega) (by omega)) ⟨(cB 2 hts wd13_23 wd2_11 wd13_20 rfl rfl (by decide +kernel) ⟨Nat.le_of_ble_eq_true rfl, Nat.le_of_ble_eq_true rfl⟩), hts _ wd13_21, hts _ wd13_22⟩ (pv hK hP hD hS hA hX [6, 7] rfl rfl 3 6 rfl rfl) rfl rfl hl.1 rfl (lv_room (Nat.le_of_ble_eq_true rfl)) dX0_numberOfSighting_6 ⟨Nat.zero_le _, Nat.zero_le _⟩) ?_
  refine ti (show getR (b 3) 6 (σ 1) (nI s9) 5 = (nI (sg σ s9 5)) from (hbr.gs hn1 (by omega) (by decide))) ?_
  refine lv_istore_n (lv' := [(3, .int (nI (sg σ s9 5))), (0, .ref (a 0)), (1, .int (nI s9)), (2, .int (nI w9))]) hx hb dX0_numberOfSighting_9 rfl hl (by decide) rfl (fun ls hl => ?_)
  refine lv_iload_n hx hb dX0_numberOfSighting_10 rfl (lv_at hl 3 rfl) ?_
  rcases (show w9 = 0 ∨ w9 = 1 ∨ w9 = 2 ∨ w9 = 3 ∨ w9 = 4 ∨ w9 = 5 ∨ w9 = 6 ∨ w9 = 7 ∨ w9 = 8 by omega) with rfl | rfl | rfl | rfl | rfl | rfl | rfl | rfl | rfl
  · refine lv_tableIn (tgt := 60) (off := 49) hx hb dX0_numberOfSighting_11 (by decide) (by decide) (by decide) (by decide) ?_
    refine lv_aload_n hx hb dX0_numberOfSighting_60 rfl (lv_at hl 1 rfl) ?_
    refine va_get (D := g) (ci := 0) (v := .ref (a 6)) (C := RX0) (T := TX0) (N := 11) hx hb hts bgX0 hown hK hP 0 rfl rfl 2 (by decide) (hts _ wd2_13) (fun _ h9 => h9) rfl dX0_numberOfSighting_61 ?_
    refine lv_iload_n hx hb dX0_numberOfSighting_64 rfl (lv_at hl 2 rfl) ?_
    refine lv_iconst (v := (nI 0)) hx hb dX0_numberOfSighting_65 (by decide) ?_
    refine rd_call (va_runV (As := [.int (nI s9), .int (nI 0)]) (rest := []) ⟨hx, hb, hml, hown, hts⟩ (c_X3_get l g cy (a 6) (a 7) s.heap.size 20 6 120 (b 3) (σ 1) (nI s9) 0 (by omega) (by omega) (by omega) (by omega) (by omega) (by omega)) ⟨(cB 2 hts wd13_23 wd2_11 wd13_20 rfl rfl (by decide +kernel) ⟨Nat.le_of_ble_eq_true rfl, Nat.le_of_ble_eq_true rfl⟩), hts _ wd13_21, hts _ wd13_22⟩ (pv hK hP hD hS hA hX [6, 7] rfl rfl 3 6 rfl rfl) rfl rfl hl.1 rfl (lv_room (Nat.le_of_ble_eq_true rfl)) dX0_numberOfSighting_66 ⟨Nat.zero_le _, Nat.zero_le _⟩) ?_
    refine ti (show getR (b 3) 6 (σ 1) (nI s9) 0 = (nI (sg σ s9 0)) from (hbr.gs hn1 (by omega) (by decide))) ?_
    exact rd_i rfl hx hb hr dX0_numberOfSighting_69 hlk
  · refine lv_tableIn (tgt := 70) (off := 59) hx hb dX0_numberOfSighting_11 (by decide) (by decide) (by decide) (by decide) ?_
    refine lv_aload_n hx hb dX0_numberOfSighting_70 rfl (lv_at hl 1 rfl) ?_
    refine va_get (D := g) (ci := 0) (v := .ref (a 6)) (C := RX0) (T := TX0) (N := 11) hx hb hts bgX0 hown hK hP 0 rfl rfl 2 (by decide) (hts _ wd2_13) (fun _ h9 => h9) rfl dX0_numberOfSighting_71 ?_
    refine lv_iload_n hx hb dX0_numberOfSighting_74 rfl (lv_at hl 2 rfl) ?_
    refine lv_iconst (v := (nI 1)) hx hb dX0_numberOfSighting_75 (by decide) ?_
    refine rd_call (va_runV (As := [.int (nI s9), .int (nI 1)]) (rest := []) ⟨hx, hb, hml, hown, hts⟩ (c_X3_get l g cy (a 6) (a 7) s.heap.size 20 6 120 (b 3) (σ 1) (nI s9) 1 (by omega) (by omega) (by omega) (by omega) (by omega) (by omega)) ⟨(cB 2 hts wd13_23 wd2_11 wd13_20 rfl rfl (by decide +kernel) ⟨Nat.le_of_ble_eq_true rfl, Nat.le_of_ble_eq_true rfl⟩), hts _ wd13_21, hts _ wd13_22⟩ (pv hK hP hD hS hA hX [6, 7] rfl rfl 3 6 rfl rfl) rfl rfl hl.1 rfl (lv_room (Nat.le_of_ble_eq_true rfl)) dX0_numberOfSighting_76 ⟨Nat.zero_le _, Nat.zero_le _⟩) ?_
    refine ti (show getR (b 3) 6 (σ 1) (nI s9) 1 = (nI (sg σ s9 1)) from (hbr.gs hn1 (by omega) (by decide))) ?_
    exact rd_i rfl hx hb hr dX0_numberOfSighting_79 hlk
  · refine lv_tableIn (tgt := 80) (off := 69) hx hb dX0_numberOfSighting_11 (by decide) (by decide) (by decide) (by decide) ?_
    refine lv_aload_n hx hb dX0_numberOfSighting_80 rfl (lv_at hl 1 rfl) ?_
    refine va_get (D := g) (ci := 0) (v := .ref (a 6)) (C := RX0) (T := TX0) (N := 11) hx hb hts bgX0 hown hK hP 0 rfl rfl 2 (by decide) (hts _ wd2_13) (fun _ h9 => h9) rfl dX0_numberOfSighting_81 ?_
    refine lv_iload_n hx hb dX0_numberOfSighting_84 rfl (lv_at hl 2 rfl) ?_
    refine lv_iconst (v := (nI 2)) hx hb dX0_numberOfSighting_85 (by decide) ?_
    refine rd_call (va_runV (As := [.int (nI s9), .int (nI 2)]) (rest := []) ⟨hx, hb, hml, hown, hts⟩ (c_X3_get l g cy (a 6) (a 7) s.heap.size 20 6 120 (b 3) (σ 1) (nI s9) 2 (by omega) (by omega) (by omega) (by omega) (by omega) (by omega)) ⟨(cB 2 hts wd13_23 wd2_11 wd13_20 rfl rfl (by decide +kernel) ⟨Nat.le_of_ble_eq_true rfl, Nat.le_of_ble_eq_true rfl⟩), hts _ wd13_21, hts _ wd13_22⟩ (pv hK hP hD hS hA hX [6, 7] rfl rfl 3 6 rfl rfl) rfl rfl hl.1 rfl (lv_room (Nat.le_of_ble_eq_true rfl)) dX0_numberOfSighting_86 ⟨Nat.zero_le _, Nat.zero_le _⟩) ?_
    refine ti (show getR (b 3) 6 (σ 1) (nI s9) 2 = (nI (sg σ s9 2)) from (hbr.gs hn1 (by omega) (by decide))) ?_
    exact rd_i rfl hx hb hr dX0_numberOfSighting_89 hlk
  · refine lv_tableIn (tgt := 90) (off := 79) hx hb dX0_numberOfSighting_11 (by decide) (by decide) (by decide) (by decide) ?_
    refine lv_aload_n hx hb dX0_numberOfSighting_90 rfl (lv_at hl 1 rfl) ?_
    refine va_get (D := g) (ci := 0) (v := .ref (a 6)) (C := RX0) (T := TX0) (N := 11) hx hb hts bgX0 hown hK hP 0 rfl rfl 2 (by decide) (hts _ wd2_13) (fun _ h9 => h9) rfl dX0_numberOfSighting_91 ?_
    refine lv_iload_n hx hb dX0_numberOfSighting_94 rfl (lv_at hl 2 rfl) ?_
    refine lv_iconst (v := (nI 3)) hx hb dX0_numberOfSighting_95 (by decide) ?_
    refine rd_call (va_runV (As := [.int (nI s9), .int (nI 3)]) (rest := []) ⟨hx, hb, hml, hown, hts⟩ (c_X3_get l g cy (a 6) (a 7) s.heap.size 20 6 120 (b 3) (σ 1) (nI s9) 3 (by omega) (by omega) (by omega) (by omega) (by omega) (by omega)) ⟨(cB 2 hts wd13_23 wd2_11 wd13_20 rfl rfl (by decide +kernel) ⟨Nat.le_of_ble_eq_true rfl, Nat.le_of_ble_eq_true rfl⟩), hts _ wd13_21, hts _ wd13_22⟩ (pv hK hP hD hS hA hX [6, 7] rfl rfl 3 6 rfl rfl) rfl rfl hl.1 rfl (lv_room (Nat.le_of_ble_eq_true rfl)) dX0_numberOfSighting_96 ⟨Nat.zero_le _, Nat.zero_le _⟩) ?_
    refine ti (show getR (b 3) 6 (σ 1) (nI s9) 3 = (nI (sg σ s9 3)) from (hbr.gs hn1 (by omega) (by decide))) ?_
    exact rd_i rfl hx hb hr dX0_numberOfSighting_99 hlk
  · refine lv_tableIn (tgt := 100) (off := 89) hx hb dX0_numberOfSighting_11 (by decide) (by decide) (by decide) (by decide) ?_
    refine lv_aload_n hx hb dX0_numberOfSighting_100 rfl (lv_at hl 1 rfl) ?_
    refine va_get (D := g) (ci := 0) (v := .ref (a 6)) (C := RX0) (T := TX0) (N := 11) hx hb hts bgX0 hown hK hP 0 rfl rfl 2 (by decide) (hts _ wd2_13) (fun _ h9 => h9) rfl dX0_numberOfSighting_101 ?_
    refine lv_iload_n hx hb dX0_numberOfSighting_104 rfl (lv_at hl 2 rfl) ?_
    refine lv_iconst (v := (nI 4)) hx hb dX0_numberOfSighting_105 (by decide) ?_
    refine rd_call (va_runV (As := [.int (nI s9), .int (nI 4)]) (rest := []) ⟨hx, hb, hml, hown, hts⟩ (c_X3_get l g cy (a 6) (a 7) s.heap.size 20 6 120 (b 3) (σ 1) (nI s9) 4 (by omega) (by omega) (by omega) (by omega) (by omega) (by omega)) ⟨(cB 2 hts wd13_23 wd2_11 wd13_20 rfl rfl (by decide +kernel) ⟨Nat.le_of_ble_eq_true rfl, Nat.le_of_ble_eq_true rfl⟩), hts _ wd13_21, hts _ wd13_22⟩ (pv hK hP hD hS hA hX [6, 7] rfl rfl 3 6 rfl rfl) rfl rfl hl.1 rfl (lv_room (Nat.le_of_ble_eq_true rfl)) dX0_numberOfSighting_106 ⟨Nat.zero_le _, Nat.zero_le _⟩) ?_
    refine ti (show getR (b 3) 6 (σ 1) (nI s9) 4 = (nI (sg σ s9 4)) from (hbr.gs hn1 (by omega) (by decide))) ?_
    exact rd_i rfl hx hb hr dX0_numberOfSighting_109 hlk
  · refine lv_tableIn (tgt := 110) (off := 99) hx hb dX0_numberOfSighting_11 (by decide) (by decide) (by decide) (by decide) ?_
    refine lv_iload_n hx hb dX0_numberOfSighting_110 rfl (lv_at hl 0 rfl) ?_
    exact rd_i rfl hx hb hr dX0_numberOfSighting_111 hlk
  · refine lv_tableIn (tgt := 112) (off := 101) hx hb dX0_numberOfSighting_11 (by decide) (by decide) (by decide) (by decide) ?_
    refine lv_iload_n hx hb dX0_numberOfSighting_112 rfl (lv_at hl 0 rfl) ?_
    refine lv_iconst (v := (nI NN)) hx hb dX0_numberOfSighting_113 (by decide) ?_
    refine lv_icmp_ne (tgt := 121) hx hb dX0_numberOfSighting_114 (by decide) (fun c_114 => ?_) (fun c_114 => ?_)
    · have c_114 := (nc_ne9 (by omega) (by decide) c_114)
      have hd9 := ((hwf.ss hs9).2.2.2.2.2.1.resolve_left c_114).1
      refine lv_aload_n hx hb dX0_numberOfSighting_121 rfl (lv_at hl 1 rfl) ?_
      refine lv_iload_n hx hb dX0_numberOfSighting_122 rfl (lv_at hl 0 rfl) ?_
      refine lv_aload_n hx hb dX0_numberOfSighting_123 rfl (lv_at hl 1 rfl) ?_
      refine va_get (D := g) (ci := 0) (v := .ref (a 6)) (C := RX0) (T := TX0) (N := 11) hx hb hts bgX0 hown hK hP 0 rfl rfl 2 (by decide) (hts _ wd2_13) (fun _ h9 => h9) rfl dX0_numberOfSighting_124 ?_
      refine lv_iload_n hx hb dX0_numberOfSighting_127 rfl (lv_at hl 2 rfl) ?_
      refine lv_iconst (v := (nI 3)) hx hb dX0_numberOfSighting_128 (by decide) ?_
      refine rd_call (va_runV (As := [.int (nI s9), .int (nI 3)]) (rest := [.int (nI (sg σ s9 5)), .ref (a 0)]) ⟨hx, hb, hml, hown, hts⟩ (c_X3_get l g cy (a 6) (a 7) s.heap.size 20 6 120 (b 3) (σ 1) (nI s9) 3 (by omega) (by omega) (by omega) (by omega) (by omega) (by omega)) ⟨(cB 2 hts wd13_23 wd2_11 wd13_20 rfl rfl (by decide +kernel) ⟨Nat.le_of_ble_eq_true rfl, Nat.le_of_ble_eq_true rfl⟩), hts _ wd13_21, hts _ wd13_22⟩ (pv hK hP hD hS hA hX [6, 7] rfl rfl 3 6 rfl rfl) rfl rfl hl.1 rfl (lv_room (Nat.le_of_ble_eq_true rfl)) dX0_numberOfSighting_129 ⟨Nat.zero_le _, Nat.zero_le _⟩) ?_
      refine ti (show getR (b 3) 6 (σ 1) (nI s9) 3 = (nI (sg σ s9 3)) from (hbr.gs hn1 (by omega) (by decide))) ?_
      refine rd_call (va_runV (As := [.int (nI (sg σ s9 5)), .int (nI (sg σ s9 3))]) (rest := []) ⟨hx, hb, hml, hown, hts⟩ (c_X0_unlikeMarks l g cy  s.heap.size a σ b bd (sg σ s9 5) (sg σ s9 3) hwf hbr (by omega) (by omega)) ⟨(cB 2 hts wd14_3 wd1_12 wd14_0 rfl rfl (by decide +kernel) ⟨Nat.le_of_ble_eq_true rfl, Nat.le_of_ble_eq_true rfl⟩), hts _ wd14_1, hts _ wd14_2⟩ (pv hK hP hD hS hA hX [0, 1, 2, 3, 4, 5, 6, 7, 8, 9] rfl rfl 0 0 rfl rfl) rfl rfl hl.1 rfl (lv_room (Nat.le_of_ble_eq_true rfl)) dX0_numberOfSighting_132 ⟨Nat.zero_le _, Nat.zero_le _⟩) ?_
      show W _ _ _ _ _ _ _ _ _ _ _ _ _ _ _ (F0 mX 135 ls [.int (nI (unl σ (sg σ s9 5) (sg σ s9 3)))])
      exact rd_i (congrArg nI (by simp [nsg, c_114])) hx hb hr dX0_numberOfSighting_135 hlk
    · have c_114 := (nc_eq9 (by omega) (by decide) c_114)
      refine lv_iconst (v := (nI NN)) hx hb dX0_numberOfSighting_117 (by decide) ?_
      refine lv_goto (tgt := 135) hx hb dX0_numberOfSighting_118 (by decide) ?_
      exact rd_i (congrArg nI (by simp [nsg, c_114])) hx hb hr dX0_numberOfSighting_135 hlk
  · refine lv_tableIn (tgt := 136) (off := 125) hx hb dX0_numberOfSighting_11 (by decide) (by decide) (by decide) (by decide) ?_
    refine lv_iload_n hx hb dX0_numberOfSighting_136 rfl (lv_at hl 0 rfl) ?_
    refine lv_iconst (v := (nI NN)) hx hb dX0_numberOfSighting_137 (by decide) ?_
    refine lv_icmp_ne (tgt := 145) hx hb dX0_numberOfSighting_138 (by decide) (fun c_138 => ?_) (fun c_138 => ?_)
    · have c_138 := (nc_ne9 (by omega) (by decide) c_138)
      have hd9 := ((hwf.ss hs9).2.2.2.2.2.1.resolve_left c_138).1
      refine lv_aload_n hx hb dX0_numberOfSighting_145 rfl (lv_at hl 1 rfl) ?_
      refine lv_iload_n hx hb dX0_numberOfSighting_146 rfl (lv_at hl 0 rfl) ?_
      refine rd_call (va_runV (As := [.int (nI (sg σ s9 5))]) (rest := []) ⟨hx, hb, hml, hown, hts⟩ (c_X0_trueFor l g cy  s.heap.size a σ b bd (sg σ s9 5) hwf hbr (by omega)) ⟨(cB 1 hts wd15_10 wd1_12 wd15_7 rfl rfl (by decide +kernel) ⟨Nat.le_of_ble_eq_true rfl, Nat.le_of_ble_eq_true rfl⟩), hts _ wd15_8, hts _ wd15_9⟩ (pv hK hP hD hS hA hX [0, 1, 2, 3, 4, 5, 6, 7, 8, 9] rfl rfl 0 0 rfl rfl) rfl rfl hl.1 rfl (lv_room (Nat.le_of_ble_eq_true rfl)) dX0_numberOfSighting_147 ⟨Nat.zero_le _, Nat.zero_le _⟩) ?_
      show W _ _ _ _ _ _ _ _ _ _ _ _ _ _ _ (F0 mX 150 ls [.int (nI (mk (trD σ (sg σ s9 5)) (σ 1)))])
      refine lv_iload_n hx hb dX0_numberOfSighting_150 rfl (lv_at hl 2 rfl) ?_
      refine lv_ishr hx hb dX0_numberOfSighting_151 ?_
      refine ti (nb_shr (m := (mk (trD σ (sg σ s9 5)) (σ 1))) (k := s9) (by omega) (by omega)) ?_
      refine lv_iconst (v := (nI 1)) hx hb dX0_numberOfSighting_152 (by decide) ?_
      refine lv_iand hx hb dX0_numberOfSighting_153 ?_
      refine ti (nx_and ((mk (trD σ (sg σ s9 5)) (σ 1)) / 2 ^ s9) 1) ?_
      refine ti (show (nI (((mk (trD σ (sg σ s9 5)) (σ 1)) / 2 ^ s9) &&& 1)) = (bI (tru σ s9)) from (by rw [← nx_and, nb_bit, mk_bit]; simp [trD, mng, hs9])) ?_
      exact rd_i (by simp [nsg, c_138, bI_n]) hx hb hr dX0_numberOfSighting_154 hlk
    · have c_138 := (nc_eq9 (by omega) (by decide) c_138)
      refine lv_iconst (v := (nI NN)) hx hb dX0_numberOfSighting_141 (by decide) ?_
      refine lv_goto (tgt := 154) hx hb dX0_numberOfSighting_142 (by decide) ?_
      exact rd_i (by simp [nsg, c_138, bI_n]) hx hb hr dX0_numberOfSighting_154 hlk
  · refine lv_tableIn (tgt := 155) (off := 144) hx hb dX0_numberOfSighting_11 (by decide) (by decide) (by decide) (by decide) ?_
    refine lv_iload_n hx hb dX0_numberOfSighting_155 rfl (lv_at hl 0 rfl) ?_
    refine lv_iconst (v := (nI NN)) hx hb dX0_numberOfSighting_156 (by decide) ?_
    refine lv_icmp_ne (tgt := 164) hx hb dX0_numberOfSighting_157 (by decide) (fun c_157 => ?_) (fun c_157 => ?_)
    · have c_157 := (nc_ne9 (by omega) (by decide) c_157)
      have hd9 := ((hwf.ss hs9).2.2.2.2.2.1.resolve_left c_157).1
      refine lv_aload_n hx hb dX0_numberOfSighting_164 rfl (lv_at hl 1 rfl) ?_
      refine lv_iload_n hx hb dX0_numberOfSighting_165 rfl (lv_at hl 0 rfl) ?_
      refine rd_call (va_runV (As := [.int (nI (sg σ s9 5))]) (rest := []) ⟨hx, hb, hml, hown, hts⟩ (c_X0_fraudsFor l g cy  s.heap.size a σ b bd (sg σ s9 5) hwf hbr (by omega)) ⟨(cB 1 hts wd15_22 wd1_12 wd15_19 rfl rfl (by decide +kernel) ⟨Nat.le_of_ble_eq_true rfl, Nat.le_of_ble_eq_true rfl⟩), hts _ wd15_20, hts _ wd15_21⟩ (pv hK hP hD hS hA hX [0, 1, 2, 3, 4, 5, 6, 7, 8, 9] rfl rfl 0 0 rfl rfl) rfl rfl hl.1 rfl (lv_room (Nat.le_of_ble_eq_true rfl)) dX0_numberOfSighting_166 ⟨Nat.zero_le _, Nat.zero_le _⟩) ?_
      show W _ _ _ _ _ _ _ _ _ _ _ _ _ _ _ (F0 mX 169 ls [.int (nI (mk (frD σ (sg σ s9 5)) (σ 1)))])
      refine lv_iload_n hx hb dX0_numberOfSighting_169 rfl (lv_at hl 2 rfl) ?_
      refine lv_ishr hx hb dX0_numberOfSighting_170 ?_
      refine ti (nb_shr (m := (mk (frD σ (sg σ s9 5)) (σ 1))) (k := s9) (by omega) (by omega)) ?_
      refine lv_iconst (v := (nI 1)) hx hb dX0_numberOfSighting_171 (by decide) ?_
      refine lv_iand hx hb dX0_numberOfSighting_172 ?_
      refine ti (nx_and ((mk (frD σ (sg σ s9 5)) (σ 1)) / 2 ^ s9) 1) ?_
      refine ti (show (nI (((mk (frD σ (sg σ s9 5)) (σ 1)) / 2 ^ s9) &&& 1)) = (bI (frd σ s9)) from (by rw [← nx_and, nb_bit, mk_bit]; simp [frD, mng, hs9])) ?_
      exact rd_i (by simp [nsg, c_157, bI_n]) hx hb hr dX0_numberOfSighting_173 hlk
    · have c_157 := (nc_eq9 (by omega) (by decide) c_157)
      refine lv_iconst (v := (nI 0)) hx hb dX0_numberOfSighting_160 (by decide) ?_
      refine lv_goto (tgt := 173) hx hb dX0_numberOfSighting_161 (by decide) ?_
      exact rd_i (by simp [nsg, c_157, bI_n, frd]) hx hb hr dX0_numberOfSighting_173 hlk
set_option maxHeartbeats 4000000 in
set_option maxRecDepth 100000 in
theorem c_X0_dogsAt (l : Launch) (g : va_G) (cy : Nat → ClassId) (sz : Nat) (a : Nat → Nat) (σ : Nat → Nat) (b : Nat → Nat → Int32) (bd : Nat) (c : Nat) (hwf : WF bd σ) (hbr : BR σ b) (hpl : ∀ i9, i9 < 6 → b 5 i9 = nI (plc σ i9)) (hc9 : c < 12) : Met l yX0_dogsAt (Cond.code yX0_dogsAt cX0_dogsAt 4 (some .int) :: wsL_law) ({ frames := 0, cells := 0, slots := 0, locals := 0 } : Room) (va_Pc [.ref (a 0), .int (nI c)] (pr g cy [(a 0, .inr (0, [.ref (a 1), .ref (a 4), .ref (a 6), .ref (a 8), .ref (a 9), .int (nI (σ 2)), .int (nI (σ 3)), .int (nI (σ 4)), .int (nI (σ 5)), .int (nI (σ 6)), .int (nI (σ 7))])), (a 1, .inr (2, [.ref (a 2), .ref (a 3), .int (nI (cmk σ))])), aI cy (a 2) 144 (wv σ), aI cy (a 3) 12 (b 1), (a 4, .inr (3, [.int (nI 6), .int (nI 11), .ref (a 5), .int (nI (σ 0))])), aI cy (a 5) 66 (b 2), (a 6, .inr (3, [.int (nI 20), .int (nI 6), .ref (a 7), .int (nI (σ 1))])), aI cy (a 7) 120 (b 3), aI cy (a 8) 8 (mS (pu σ)), aI cy (a 9) 6 (b 5)] sz)) (rd_Q (some (.int (nI (cA σ c))))) 0 0 (nF) := by
  refine mt_of (cc := cX0_dogsAt) (maxL := 4) (ret := (some .int)) (by decide +kernel) (Nat.le_of_ble_eq_true rfl) ?_
  intro pX eX s mX below meth cX ls A hx hb hr hml hown hts hlk hin hsz hAe hA hP hD hK hX hl
  have hl : lv_has ls 4 [(0, .ref (a 0)), (1, .int (nI c))] := hl
  have hS : va_S A s.heap s.heap [] := va_S.rf
  have hn0 := hwf.n0
  have hn1 := hwf.n1
  have hh2 := hwf.h2
  refine lv_iconst (v := (nI 0)) hx hb dX0_dogsAt_0 (by decide) ?_
  refine lv_istore_n (lv' := [(2, .int (nI 0)), (0, .ref (a 0)), (1, .int (nI c))]) hx hb dX0_dogsAt_1 rfl hl (by decide) rfl (fun ls hl => ?_)
  refine lv_iconst (v := (nI 0)) hx hb dX0_dogsAt_2 (by decide) ?_
  refine lv_istore_n (lv' := [(3, .int (nI 0)), (2, .int (nI 0)), (0, .ref (a 0)), (1, .int (nI c))]) hx hb dX0_dogsAt_3 rfl hl (by decide) rfl (fun ls hl => ?_)
  have hl : lv_has ls 4 [(3, .int (nI 0)), (2, .int (nI (ct (fun d => (plc σ d).testBit c) 0))), (0, .ref (a 0)), (1, .int (nI c))] := by rw [← show (nI 0) = (nI (ct (fun d => (plc σ d).testBit c) 0)) from rfl]; exact hl
  refine lp_rd (σ := (Nat)) (fun x9 ls9 => lv_has ls9 4 [(0, .ref (a 0)), (1, .int (nI c)), (2, .int (nI (ct (fun d => (plc σ d).testBit c) x9))), (3, .int (nI x9))] ∧ (x9 ≤ 6)) (fun x9 => 6 - x9) (0) ⟨lv_sub hl [2, 3, 1, 0] rfl, (by omega)⟩ ?_
  rintro i ls ⟨hl, hi⟩ ih4
  try dsimp only at hl hi ih4
  refine lv_iload_n hx hb dX0_dogsAt_4 rfl (lv_at hl 3 rfl) ?_
  refine lv_aload_n hx hb dX0_dogsAt_5 rfl (lv_at hl 0 rfl) ?_
  refine va_get (D := g) (ci := 0) (v := .ref (a 9)) (C := RX0) (T := TX0) (N := 11) hx hb hts bgX0 hown hK hP 0 rfl rfl 4 (by decide) (hts _ wd2_16) (fun _ h9 => h9) rfl dX0_dogsAt_6 ?_
  refine va_alen (v := nI 6) hx hb hK hP 9 0 rfl rfl rfl dX0_dogsAt_9 ?_
  refine lv_icmp_ge (tgt := 32) hx hb dX0_dogsAt_10 (by decide) (fun c_10 => ?_) (fun c_10 => ?_)
  · have c_10 := (nc_le (by omega) (by omega) c_10)
    have e9 : i = 6 := by omega
    subst e9
    refine lv_iload_n hx hb dX0_dogsAt_32 rfl (lv_at hl 2 rfl) ?_
    exact rd_i rfl hx hb hr dX0_dogsAt_33 hlk
  · have c_10 := (nc_nle (by omega) (by omega) c_10)
    have hq12 := plc_lt σ i
    refine lv_iload_n hx hb dX0_dogsAt_13 rfl (lv_at hl 2 rfl) ?_
    refine lv_aload_n hx hb dX0_dogsAt_14 rfl (lv_at hl 0 rfl) ?_
    refine va_get (D := g) (ci := 0) (v := .ref (a 9)) (C := RX0) (T := TX0) (N := 11) hx hb hts bgX0 hown hK hP 0 rfl rfl 4 (by decide) (hts _ wd2_16) (fun _ h9 => h9) rfl dX0_dogsAt_15 ?_
    refine lv_iload_n hx hb dX0_dogsAt_18 rfl (lv_at hl 3 rfl) ?_
    refine va_iald hx hb hK hP 9 0 rfl rfl (vp_in_nI (n := i) (by omega) (by omega)) dX0_dogsAt_19 ?_
    refine ti (show (b 5) (nI i).toNatClampNeg = (b 5) i from by rw [nI_clamp (by omega)]) ?_
    refine ti (show ((b 5) i) = (nI (plc σ i)) from (hpl i (by omega))) ?_
    refine lv_iload_n hx hb dX0_dogsAt_20 rfl (lv_at hl 1 rfl) ?_
    refine lv_ishr hx hb dX0_dogsAt_21 ?_
    refine ti (nb_shr (m := (plc σ i)) (k := c) (by omega) (by omega)) ?_
    refine lv_iconst (v := (nI 1)) hx hb dX0_dogsAt_22 (by decide) ?_
    refine lv_iand hx hb dX0_dogsAt_23 ?_
    refine ti (nx_and ((plc σ i) / 2 ^ c) 1) ?_
    refine ti (show (nI (((plc σ i) / 2 ^ c) &&& 1)) = (nI (if (plc σ i).testBit c then 1 else 0)) from (by rw [← nx_and, nb_bit, bI_n])) ?_
    refine lv_iadd hx hb dX0_dogsAt_24 ?_
    refine ti (nI_add (ct (fun d => (plc σ d).testBit c) i) (if (plc σ i).testBit c then 1 else 0)) ?_
    refine lv_istore_n (lv' := [(2, .int (nI ((ct (fun d => (plc σ d).testBit c) i) + (if (plc σ i).testBit c then 1 else 0)))), (0, .ref (a 0)), (1, .int (nI c)), (3, .int (nI i))]) hx hb dX0_dogsAt_25 rfl hl (by decide) rfl (fun ls hl => ?_)
    have hl : lv_has ls 4 [(2, .int (nI (ct (fun d => (plc σ d).testBit c) (i + 1)))), (0, .ref (a 0)), (1, .int (nI c)), (3, .int (nI i))] := by rw [← show (nI ((ct (fun d => (plc σ d).testBit c) i) + (if (plc σ i).testBit c then 1 else 0))) = (nI (ct (fun d => (plc σ d).testBit c) (i + 1))) from rfl]; exact hl
    refine lv_iinc (v := (nI (i + 1))) (lv' := [(3, .int (nI (i + 1))), (2, .int (nI (ct (fun d => (plc σ d).testBit c) (i + 1)))), (0, .ref (a 0)), (1, .int (nI c))]) hx hb dX0_dogsAt_26 hl (k := 3) rfl (nI_add i 1) (by decide) rfl (fun ls hl => ?_)
    refine lv_goto (tgt := 4) hx hb dX0_dogsAt_29 (by decide) ?_
    exact ih4 (i + 1) ls ⟨lv_sub hl [2, 3, 1, 0] rfl, (by omega)⟩ (by first | omega | (dsimp only; omega))
set_option maxHeartbeats 4000000 in
set_option maxRecDepth 100000 in
theorem c_X0_rewardsAt (l : Launch) (g : va_G) (cy : Nat → ClassId) (sz : Nat) (a : Nat → Nat) (σ : Nat → Nat) (b : Nat → Nat → Int32) (bd : Nat) (c : Nat) (hwf : WF bd σ) (hbr : BR σ b) (hpl : ∀ i9, i9 < 6 → b 5 i9 = nI (plc σ i9)) (hc9 : c < 12) : Met l yX0_rewardsAt (Cond.code yX0_rewardsAt cX0_rewardsAt 4 (some .int) :: wsL_law) ({ frames := 1, cells := 0, slots := 0, locals := 23 } : Room) (va_Pc [.ref (a 0), .int (nI c)] (pr g cy [(a 0, .inr (0, [.ref (a 1), .ref (a 4), .ref (a 6), .ref (a 8), .ref (a 9), .int (nI (σ 2)), .int (nI (σ 3)), .int (nI (σ 4)), .int (nI (σ 5)), .int (nI (σ 6)), .int (nI (σ 7))])), (a 1, .inr (2, [.ref (a 2), .ref (a 3), .int (nI (cmk σ))])), aI cy (a 2) 144 (wv σ), aI cy (a 3) 12 (b 1), (a 4, .inr (3, [.int (nI 6), .int (nI 11), .ref (a 5), .int (nI (σ 0))])), aI cy (a 5) 66 (b 2), (a 6, .inr (3, [.int (nI 20), .int (nI 6), .ref (a 7), .int (nI (σ 1))])), aI cy (a 7) 120 (b 3), aI cy (a 8) 8 (mS (pu σ)), aI cy (a 9) 6 (b 5)] sz)) (rd_Q (some (.int (nI (rA σ c))))) 0 0 (nF) := by
  refine mt_of (cc := cX0_rewardsAt) (maxL := 4) (ret := (some .int)) (by decide +kernel) (Nat.le_of_ble_eq_true rfl) ?_
  intro pX eX s mX below meth cX ls A hx hb hr hml hown hts hlk hin hsz hAe hA hP hD hK hX hl
  have hl : lv_has ls 4 [(0, .ref (a 0)), (1, .int (nI c))] := hl
  have hS : va_S A s.heap s.heap [] := va_S.rf
  have hn0 := hwf.n0
  have hn1 := hwf.n1
  have hh2 := hwf.h2
  refine lv_iconst (v := (nI 0)) hx hb dX0_rewardsAt_0 (by decide) ?_
  refine lv_istore_n (lv' := [(2, .int (nI 0)), (0, .ref (a 0)), (1, .int (nI c))]) hx hb dX0_rewardsAt_1 rfl hl (by decide) rfl (fun ls hl => ?_)
  refine lv_iconst (v := (nI 0)) hx hb dX0_rewardsAt_2 (by decide) ?_
  refine lv_istore_n (lv' := [(3, .int (nI 0)), (2, .int (nI 0)), (0, .ref (a 0)), (1, .int (nI c))]) hx hb dX0_rewardsAt_3 rfl hl (by decide) rfl (fun ls hl => ?_)
  have hl : lv_has ls 4 [(3, .int (nI 0)), (2, .int (nI (sm (fun d => if (plc σ d).testBit c then dg σ d 4 else 0) 0))), (0, .ref (a 0)), (1, .int (nI c))] := by rw [← show (nI 0) = (nI (sm (fun d => if (plc σ d).testBit c then dg σ d 4 else 0) 0)) from rfl]; exact hl
  refine lp_rd (σ := (Nat)) (fun x9 ls9 => lv_has ls9 4 [(0, .ref (a 0)), (1, .int (nI c)), (2, .int (nI (sm (fun d => if (plc σ d).testBit c then dg σ d 4 else 0) x9))), (3, .int (nI x9))] ∧ (x9 ≤ 6)) (fun x9 => 6 - x9) (0) ⟨lv_sub hl [2, 3, 1, 0] rfl, (by omega)⟩ ?_
  rintro i ls ⟨hl, hi⟩ ih4
  try dsimp only at hl hi ih4
  refine lv_iload_n hx hb dX0_rewardsAt_4 rfl (lv_at hl 3 rfl) ?_
  refine lv_aload_n hx hb dX0_rewardsAt_5 rfl (lv_at hl 0 rfl) ?_
  refine va_get (D := g) (ci := 0) (v := .ref (a 9)) (C := RX0) (T := TX0) (N := 11) hx hb hts bgX0 hown hK hP 0 rfl rfl 4 (by decide) (hts _ wd2_16) (fun _ h9 => h9) rfl dX0_rewardsAt_6 ?_
  refine va_alen (v := nI 6) hx hb hK hP 9 0 rfl rfl rfl dX0_rewardsAt_9 ?_
  refine lv_icmp_ge (tgt := 48) hx hb dX0_rewardsAt_10 (by decide) (fun c_10 => ?_) (fun c_10 => ?_)
  · have c_10 := (nc_le (by omega) (by omega) c_10)
    have e9 : i = 6 := by omega
    subst e9
    refine lv_iload_n hx hb dX0_rewardsAt_48 rfl (lv_at hl 2 rfl) ?_
    exact rd_i rfl hx hb hr dX0_rewardsAt_49 hlk
  · have c_10 := (nc_nle (by omega) (by omega) c_10)
    have hq12 := plc_lt σ i
    refine lv_iload_n hx hb dX0_rewardsAt_13 rfl (lv_at hl 2 rfl) ?_
    refine lv_aload_n hx hb dX0_rewardsAt_14 rfl (lv_at hl 0 rfl) ?_
    refine va_get (D := g) (ci := 0) (v := .ref (a 9)) (C := RX0) (T := TX0) (N := 11) hx hb hts bgX0 hown hK hP 0 rfl rfl 4 (by decide) (hts _ wd2_16) (fun _ h9 => h9) rfl dX0_rewardsAt_15 ?_
    refine lv_iload_n hx hb dX0_rewardsAt_18 rfl (lv_at hl 3 rfl) ?_
    refine va_iald hx hb hK hP 9 0 rfl rfl (vp_in_nI (n := i) (by omega) (by omega)) dX0_rewardsAt_19 ?_
    refine ti (show (b 5) (nI i).toNatClampNeg = (b 5) i from by rw [nI_clamp (by omega)]) ?_
    refine ti (show ((b 5) i) = (nI (plc σ i)) from (hpl i (by omega))) ?_
    refine lv_iload_n hx hb dX0_rewardsAt_20 rfl (lv_at hl 1 rfl) ?_
    refine rd_call (va_runSN (As := [.int (nI (plc σ i)), .int (nI c)]) (rest := [.int (nI (sm (fun d => if (plc σ d).testBit c then dg σ d 4 else 0) i))]) ⟨hx, hb, hml, hown, hts⟩ (c_X7_hasBit l (plc σ i) c (by omega) (by omega)) ⟨va_cnB 2 hts (bg_call wd5_0) rfl rfl rfl (nM_8 hX) (hts _ wd1_2) (by decide +kernel) ⟨Nat.le_of_ble_eq_true rfl, Nat.le_of_ble_eq_true rfl⟩, hts _ wd4_23, trivial⟩ p0 rfl rfl hl.1 rfl (lv_room (Nat.le_of_ble_eq_true rfl)) dX0_rewardsAt_21 ⟨Nat.zero_le _, Nat.zero_le _⟩) ?_
    show W _ _ _ _ _ _ _ _ _ _ _ _ _ _ _ (F0 mX 24 ls [.int (bI ((plc σ i).testBit c)), .int (nI (sm (fun d => if (plc σ d).testBit c then dg σ d 4 else 0) i))])
    refine lv_if_eq (tgt := 39) hx hb dX0_rewardsAt_24 (by decide) (fun c_24 => ?_) (fun c_24 => ?_)
    · have c_24 := (bI_eq0.mp c_24)
      refine lv_iconst (v := (nI 0)) hx hb dX0_rewardsAt_39 (by decide) ?_
      refine lv_iadd hx hb dX0_rewardsAt_40 ?_
      refine ti (nI_add (sm (fun d => if (plc σ d).testBit c then dg σ d 4 else 0) i) 0) ?_
      refine lv_istore_n (lv' := [(2, .int (nI ((sm (fun d => if (plc σ d).testBit c then dg σ d 4 else 0) i) + 0))), (0, .ref (a 0)), (1, .int (nI c)), (3, .int (nI i))]) hx hb dX0_rewardsAt_41 rfl hl (by decide) rfl (fun ls hl => ?_)
      have hl : lv_has ls 4 [(2, .int (nI (sm (fun d => if (plc σ d).testBit c then dg σ d 4 else 0) (i + 1)))), (0, .ref (a 0)), (1, .int (nI c)), (3, .int (nI i))] := by rw [← show (nI ((sm (fun d => if (plc σ d).testBit c then dg σ d 4 else 0) i) + 0)) = (nI (sm (fun d => if (plc σ d).testBit c then dg σ d 4 else 0) (i + 1))) from (congrArg nI (by simp [sm, c_24]))]; exact hl
      refine lv_iinc (v := (nI (i + 1))) (lv' := [(3, .int (nI (i + 1))), (2, .int (nI (sm (fun d => if (plc σ d).testBit c then dg σ d 4 else 0) (i + 1)))), (0, .ref (a 0)), (1, .int (nI c))]) hx hb dX0_rewardsAt_42 hl (k := 3) rfl (nI_add i 1) (by decide) rfl (fun ls hl => ?_)
      refine lv_goto (tgt := 4) hx hb dX0_rewardsAt_45 (by decide) ?_
      exact ih4 (i + 1) ls ⟨lv_sub hl [2, 3, 1, 0] rfl, (by omega)⟩ (by first | omega | (dsimp only; omega))
    · have c_24 := (bI_ne0.mp c_24)
      have hi0 : i < σ 0 := plc_in c_24
      refine lv_aload_n hx hb dX0_rewardsAt_27 rfl (lv_at hl 0 rfl) ?_
      refine va_get (D := g) (ci := 0) (v := .ref (a 4)) (C := RX0) (T := TX0) (N := 11) hx hb hts bgX0 hown hK hP 0 rfl rfl 1 (by decide) (hts _ wd2_12) (fun _ h9 => h9) rfl dX0_rewardsAt_28 ?_
      refine lv_iload_n hx hb dX0_rewardsAt_31 rfl (lv_at hl 3 rfl) ?_
      refine lv_iconst (v := (nI 4)) hx hb dX0_rewardsAt_32 (by decide) ?_
      refine rd_call (va_runV (As := [.int (nI i), .int (nI 4)]) (rest := [.int (nI (sm (fun d => if (plc σ d).testBit c then dg σ d 4 else 0) i))]) ⟨hx, hb, hml, hown, hts⟩ (c_X3_get l g cy (a 4) (a 5) s.heap.size 6 11 66 (b 2) (σ 0) (nI i) 4 (by omega) (by omega) (by omega) (by omega) (by omega) (by omega)) ⟨(cB 2 hts wd13_23 wd2_11 wd13_20 rfl rfl (by decide +kernel) ⟨Nat.le_of_ble_eq_true rfl, Nat.le_of_ble_eq_true rfl⟩), hts _ wd13_21, hts _ wd13_22⟩ (pv hK hP hD hS hA hX [4, 5] rfl rfl 3 4 rfl rfl) rfl rfl hl.1 rfl (lv_room (Nat.le_of_ble_eq_true rfl)) dX0_rewardsAt_33 ⟨Nat.zero_le _, Nat.zero_le _⟩) ?_
      refine ti (show getR (b 2) 11 (σ 0) (nI i) 4 = (nI (dg σ i 4)) from (hbr.gd hn0 (by omega) (by decide))) ?_
      refine lv_goto (tgt := 40) hx hb dX0_rewardsAt_36 (by decide) ?_
      refine lv_iadd hx hb dX0_rewardsAt_40 ?_
      refine ti (nI_add (sm (fun d => if (plc σ d).testBit c then dg σ d 4 else 0) i) (dg σ i 4)) ?_
      refine lv_istore_n (lv' := [(2, .int (nI ((sm (fun d => if (plc σ d).testBit c then dg σ d 4 else 0) i) + (dg σ i 4)))), (0, .ref (a 0)), (1, .int (nI c)), (3, .int (nI i))]) hx hb dX0_rewardsAt_41 rfl hl (by decide) rfl (fun ls hl => ?_)
      have hl : lv_has ls 4 [(2, .int (nI (sm (fun d => if (plc σ d).testBit c then dg σ d 4 else 0) (i + 1)))), (0, .ref (a 0)), (1, .int (nI c)), (3, .int (nI i))] := by rw [← show (nI ((sm (fun d => if (plc σ d).testBit c then dg σ d 4 else 0) i) + (dg σ i 4))) = (nI (sm (fun d => if (plc σ d).testBit c then dg σ d 4 else 0) (i + 1))) from (congrArg nI (by simp [sm, c_24]))]; exact hl
      refine lv_iinc (v := (nI (i + 1))) (lv' := [(3, .int (nI (i + 1))), (2, .int (nI (sm (fun d => if (plc σ d).testBit c then dg σ d 4 else 0) (i + 1)))), (0, .ref (a 0)), (1, .int (nI c))]) hx hb dX0_rewardsAt_42 hl (k := 3) rfl (nI_add i 1) (by decide) rfl (fun ls hl => ?_)
      refine lv_goto (tgt := 4) hx hb dX0_rewardsAt_45 (by decide) ?_
      exact ih4 (i + 1) ls ⟨lv_sub hl [2, 3, 1, 0] rfl, (by omega)⟩ (by first | omega | (dsimp only; omega))
set_option maxHeartbeats 4000000 in
set_option maxRecDepth 100000 in
theorem c_X0_cornerToWatch (l : Launch) (g : va_G) (cy : Nat → ClassId) (sz : Nat) (a : Nat → Nat) (σ : Nat → Nat) (b : Nat → Nat → Int32) (bd : Nat) (hwf : WF bd σ) (hbr : BR σ b) : Met l yX0_cornerToWatch (Cond.code yX0_cornerToWatch cX0_cornerToWatch 4 (some .int) :: wsL_law) ({ frames := 5, cells := 0, slots := 0, locals := 121 } : Room) (va_Pc [.ref (a 0)] (pr g cy [(a 0, .inr (0, [.ref (a 1), .ref (a 4), .ref (a 6), .ref (a 8), .ref (a 9), .int (nI (σ 2)), .int (nI (σ 3)), .int (nI (σ 4)), .int (nI (σ 5)), .int (nI (σ 6)), .int (nI (σ 7))])), (a 1, .inr (2, [.ref (a 2), .ref (a 3), .int (nI (cmk σ))])), aI cy (a 2) 144 (wv σ), aI cy (a 3) 12 (b 1), (a 4, .inr (3, [.int (nI 6), .int (nI 11), .ref (a 5), .int (nI (σ 0))])), aI cy (a 5) 66 (b 2), (a 6, .inr (3, [.int (nI 20), .int (nI 6), .ref (a 7), .int (nI (σ 1))])), aI cy (a 7) 120 (b 3), aI cy (a 8) 8 (mS (pu σ)), aI cy (a 9) 6 (b 5)] sz)) (wr_Q (fun b1 : Nat → Nat → Int32 => (some (.int (nI (wat σ))))) (fun b1 : Nat → Nat → Int32 => (BR (σ) b1)) (fun b1 : Nat → Nat → Int32 => [(a 0, .inr (0, [.ref (a 1), .ref (a 4), .ref (a 6), .ref (a 8), .ref (a 9), .int (nI (σ 2)), .int (nI (σ 3)), .int (nI (σ 4)), .int (nI (σ 5)), .int (nI (σ 6)), .int (nI (σ 7))])), (a 1, .inr (2, [.ref (a 2), .ref (a 3), .int (nI (cmk σ))])), aI cy (a 2) 144 (wv σ), aI cy (a 3) 12 (b1 1), (a 4, .inr (3, [.int (nI 6), .int (nI 11), .ref (a 5), .int (nI (σ 0))])), aI cy (a 5) 66 (b1 2), (a 6, .inr (3, [.int (nI 20), .int (nI 6), .ref (a 7), .int (nI (σ 1))])), aI cy (a 7) 120 (b1 3), aI cy (a 8) 8 (mS (pu σ)), aI cy (a 9) 6 (b1 5)]) g (va_A [(a 0, .inr (0, [.ref (a 1), .ref (a 4), .ref (a 6), .ref (a 8), .ref (a 9), .int (nI (σ 2)), .int (nI (σ 3)), .int (nI (σ 4)), .int (nI (σ 5)), .int (nI (σ 6)), .int (nI (σ 7))])), (a 1, .inr (2, [.ref (a 2), .ref (a 3), .int (nI (cmk σ))])), aI cy (a 2) 144 (wv σ), aI cy (a 3) 12 (b 1), (a 4, .inr (3, [.int (nI 6), .int (nI 11), .ref (a 5), .int (nI (σ 0))])), aI cy (a 5) 66 (b 2), (a 6, .inr (3, [.int (nI 20), .int (nI 6), .ref (a 7), .int (nI (σ 1))])), aI cy (a 7) 120 (b 3), aI cy (a 8) 8 (mS (pu σ)), aI cy (a 9) 6 (b 5)] sz)) 0 0 (va_A [(a 0, .inr (0, [.ref (a 1), .ref (a 4), .ref (a 6), .ref (a 8), .ref (a 9), .int (nI (σ 2)), .int (nI (σ 3)), .int (nI (σ 4)), .int (nI (σ 5)), .int (nI (σ 6)), .int (nI (σ 7))])), (a 1, .inr (2, [.ref (a 2), .ref (a 3), .int (nI (cmk σ))])), aI cy (a 2) 144 (wv σ), aI cy (a 3) 12 (b 1), (a 4, .inr (3, [.int (nI 6), .int (nI 11), .ref (a 5), .int (nI (σ 0))])), aI cy (a 5) 66 (b 2), (a 6, .inr (3, [.int (nI 20), .int (nI 6), .ref (a 7), .int (nI (σ 1))])), aI cy (a 7) 120 (b 3), aI cy (a 8) 8 (mS (pu σ)), aI cy (a 9) 6 (b 5)] sz) := by
  refine mt_of (cc := cX0_cornerToWatch) (maxL := 4) (ret := (some .int)) (by decide +kernel) (Nat.le_of_ble_eq_true rfl) ?_
  intro pX eX s mX below meth cX ls A hx hb hr hml hown hts hlk hin hsz hAe hA hP hD hK hX hl
  subst hsz
  rw [← hAe]
  clear hAe
  have hl : lv_has ls 4 [(0, .ref (a 0))] := hl
  have hS : va_S A s.heap s.heap [] := va_S.rf
  have hn0 := hwf.n0
  have hn1 := hwf.n1
  have hh2 := hwf.h2
  refine lv_aload_n hx hb dX0_cornerToWatch_0 rfl (lv_at hl 0 rfl) ?_
  refine rd_call (va_runV (As := []) (rest := []) ⟨hx, hb, hml, hown, hts⟩ (c_X0_missingDogs l g cy  s.heap.size a σ b bd hwf hbr) ⟨(cB 0 hts wd18_16 wd1_12 wd18_13 rfl rfl (by decide +kernel) ⟨Nat.le_of_ble_eq_true rfl, Nat.le_of_ble_eq_true rfl⟩), hts _ wd18_14, hts _ wd18_15⟩ (pv hK hP hD hS hA hX [0, 1, 2, 3, 4, 5, 6, 7, 8, 9] rfl rfl 0 0 rfl rfl) rfl rfl hl.1 rfl (lv_room (Nat.le_of_ble_eq_true rfl)) dX0_cornerToWatch_1 ⟨Nat.zero_le _, Nat.zero_le _⟩) ?_
  show W _ _ _ _ _ _ _ _ _ _ _ _ _ _ _ (F0 mX 4 ls [.int (nI (ct (msg σ) (σ 0)))])
  have hct := ct_le (msg σ) (σ 0)
  refine lv_if_ne (tgt := 9) hx hb dX0_cornerToWatch_4 (by decide) (fun c_4 => ?_) (fun c_4 => ?_)
  · have c_4 := (nz_ne c_4 (by omega))
    refine lv_iconst (v := (nI 0)) hx hb dX0_cornerToWatch_9 (by decide) ?_
    refine lv_istore_n (lv' := [(1, .int (nI 0)), (0, .ref (a 0))]) hx hb dX0_cornerToWatch_10 rfl hl (by decide) rfl (fun ls hl => ?_)
    rw [show (b 5) = ((bs b 5 (plF σ (b 5) 0)) 5) from (plF_0 (σ := σ) (f := b 5)).symm] at hP hD
    refine lp_rule (σ := (Nat)) (fun x9 H9 locs9 ls9 => va_P g vwCl [(a 0, .inr (0, [.ref (a 1), .ref (a 4), .ref (a 6), .ref (a 8), .ref (a 9), .int (nI (σ 2)), .int (nI (σ 3)), .int (nI (σ 4)), .int (nI (σ 5)), .int (nI (σ 6)), .int (nI (σ 7))])), (a 1, .inr (2, [.ref (a 2), .ref (a 3), .int (nI (cmk σ))])), aI cy (a 2) 144 (wv σ), aI cy (a 3) 12 ((bs b 5 (plF σ (b 5) x9)) 1), (a 4, .inr (3, [.int (nI 6), .int (nI 11), .ref (a 5), .int (nI (σ 0))])), aI cy (a 5) 66 ((bs b 5 (plF σ (b 5) x9)) 2), (a 6, .inr (3, [.int (nI 20), .int (nI 6), .ref (a 7), .int (nI (σ 1))])), aI cy (a 7) 120 ((bs b 5 (plF σ (b 5) x9)) 3), aI cy (a 8) 8 (mS (pu σ)), aI cy (a 9) 6 ((bs b 5 (plF σ (b 5) x9)) 5)] H9 ∧ va_D A [(a 0, .inr (0, [.ref (a 1), .ref (a 4), .ref (a 6), .ref (a 8), .ref (a 9), .int (nI (σ 2)), .int (nI (σ 3)), .int (nI (σ 4)), .int (nI (σ 5)), .int (nI (σ 6)), .int (nI (σ 7))])), (a 1, .inr (2, [.ref (a 2), .ref (a 3), .int (nI (cmk σ))])), aI cy (a 2) 144 (wv σ), aI cy (a 3) 12 ((bs b 5 (plF σ (b 5) x9)) 1), (a 4, .inr (3, [.int (nI 6), .int (nI 11), .ref (a 5), .int (nI (σ 0))])), aI cy (a 5) 66 ((bs b 5 (plF σ (b 5) x9)) 2), (a 6, .inr (3, [.int (nI 20), .int (nI 6), .ref (a 7), .int (nI (σ 1))])), aI cy (a 7) 120 ((bs b 5 (plF σ (b 5) x9)) 3), aI cy (a 8) 8 (mS (pu σ)), aI cy (a 9) 6 ((bs b 5 (plF σ (b 5) x9)) 5)] ∧ va_S A s.heap H9 locs9 ∧ lv_has ls9 4 [(0, .ref (a 0)), (1, .int (nI x9))] ∧ (x9 ≤ 6)) (fun x9 => 6 - x9) (0) ⟨hP, hD, hS, lv_sub hl [1, 0] rfl, (by omega)⟩ ?_
    rintro i H locs ls ⟨hP, hD, hS, hl, hi⟩ ih11
    try dsimp only at hl hi hP hD ih11
    refine lv_iload_n hx hb dX0_cornerToWatch_11 rfl (lv_at hl 1 rfl) ?_
    refine lv_aload_n hx hb dX0_cornerToWatch_12 rfl (lv_at hl 0 rfl) ?_
    refine va_get (D := g) (ci := 0) (v := .ref (a 9)) (C := RX0) (T := TX0) (N := 11) hx hb hts bgX0 hown hK hP 0 rfl rfl 4 (by decide) (hts _ wd2_16) (fun _ h9 => h9) rfl dX0_cornerToWatch_13 ?_
    refine va_alen (v := nI 6) hx hb hK hP 9 0 rfl rfl rfl dX0_cornerToWatch_16 ?_
    refine lv_icmp_ge (tgt := 49) hx hb dX0_cornerToWatch_17 (by decide) (fun c_17 => ?_) (fun c_17 => ?_)
    · have c_17 := (nc_le (by omega) (by omega) c_17)
      have e9 : i = 6 := by omega
      subst e9
      refine lv_iconst (v := (nI 0)) hx hb dX0_cornerToWatch_49 (by decide) ?_
      refine lv_istore_n (lv' := [(1, .int (nI 0)), (0, .ref (a 0))]) hx hb dX0_cornerToWatch_50 rfl hl (by decide) rfl (fun ls hl => ?_)
      refine lv_iconst (v := (nI 1)) hx hb dX0_cornerToWatch_51 (by decide) ?_
      refine lv_istore_n (lv' := [(2, .int (nI 1)), (1, .int (nI 0)), (0, .ref (a 0))]) hx hb dX0_cornerToWatch_52 rfl hl (by decide) rfl (fun ls hl => ?_)
      have hl : lv_has ls 4 [(2, .int (nI 1)), (1, .int (nI (wtb σ 0))), (0, .ref (a 0))] := by rw [← show (nI 0) = (nI (wtb σ 0)) from rfl]; exact hl
      have hl : lv_has ls 4 [(2, .int (nI (0 + 1))), (1, .int (nI (wtb σ 0))), (0, .ref (a 0))] := by rw [← show (nI 1) = (nI (0 + 1)) from rfl]; exact hl
      refine lp_rd (σ := (Nat)) (fun x9 ls9 => lv_has ls9 4 [(0, .ref (a 0)), (1, .int (nI (wtb σ x9))), (2, .int (nI (x9 + 1)))] ∧ (x9 ≤ 11)) (fun x9 => 11 - x9) (0) ⟨lv_sub hl [2, 1, 0] rfl, (by omega)⟩ ?_
      rintro j ls ⟨hl, hj⟩ ih53
      try dsimp only at hl hj ih53
      refine lv_iload_n hx hb dX0_cornerToWatch_53 rfl (lv_at hl 2 rfl) ?_
      refine lv_bipush (v := (nI 12)) hx hb dX0_cornerToWatch_54 (by decide) ?_
      refine lv_icmp_ge (tgt := 100) hx hb dX0_cornerToWatch_56 (by decide) (fun c_56 => ?_) (fun c_56 => ?_)
      · have c_56 := (nc_le (by omega) (by omega) c_56)
        have e9 : j = 11 := by omega
        subst e9
        refine lv_iload_n hx hb dX0_cornerToWatch_100 rfl (lv_at hl 1 rfl) ?_
        exact wr_i (bs b 5 (plF σ (b 5) 6)) (by rw [show wat σ = wtb σ 11 from if_neg c_4]) (BR_5 hbr) hP hS hx hb hr dX0_cornerToWatch_101 hlk
      · have c_56 := (nc_nle (by omega) (by omega) c_56)
        have hwl := wtb_le (σ := σ) j
        have a1 := cA_le (σ := σ) (c := j + 1)
        have a2 := cA_le (σ := σ) (c := wtb σ j)
        have a3 := rA_le (c := j + 1) hwf
        have a4 := rA_le (c := wtb σ j) hwf
        refine lv_aload_n hx hb dX0_cornerToWatch_59 rfl (lv_at hl 0 rfl) ?_
        refine lv_iload_n hx hb dX0_cornerToWatch_60 rfl (lv_at hl 2 rfl) ?_
        refine rd_call (va_runV (As := [.int (nI (j + 1))]) (rest := []) ⟨hx, hb, hml, hown, hts⟩ (c_X0_dogsAt l g cy  H.size a σ (bs b 5 (plF σ (b 5) 6)) bd (j + 1) hwf (BR_5 hbr) (fun i9 h9 => plF_n h9) (by omega)) ⟨(cB 1 hts wd29_11 wd1_12 wd29_8 rfl rfl (by decide +kernel) ⟨Nat.le_of_ble_eq_true rfl, Nat.le_of_ble_eq_true rfl⟩), hts _ wd29_9, hts _ wd29_10⟩ (pv hK hP hD hS hA hX [0, 1, 2, 3, 4, 5, 6, 7, 8, 9] rfl rfl 0 0 rfl rfl) rfl rfl hl.1 rfl (lv_room (Nat.le_of_ble_eq_true rfl)) dX0_cornerToWatch_61 ⟨Nat.zero_le _, Nat.zero_le _⟩) ?_
        show W _ _ _ _ _ _ _ _ _ _ _ _ _ _ _ (F0 mX 64 ls [.int (nI (cA σ (j + 1)))])
        refine lv_aload_n hx hb dX0_cornerToWatch_64 rfl (lv_at hl 0 rfl) ?_
        refine lv_iload_n hx hb dX0_cornerToWatch_65 rfl (lv_at hl 1 rfl) ?_
        refine rd_call (va_runV (As := [.int (nI (wtb σ j))]) (rest := [.int (nI (cA σ (j + 1)))]) ⟨hx, hb, hml, hown, hts⟩ (c_X0_dogsAt l g cy  H.size a σ (bs b 5 (plF σ (b 5) 6)) bd (wtb σ j) hwf (BR_5 hbr) (fun i9 h9 => plF_n h9) (by omega)) ⟨(cB 1 hts wd29_11 wd1_12 wd29_8 rfl rfl (by decide +kernel) ⟨Nat.le_of_ble_eq_true rfl, Nat.le_of_ble_eq_true rfl⟩), hts _ wd29_9, hts _ wd29_10⟩ (pv hK hP hD hS hA hX [0, 1, 2, 3, 4, 5, 6, 7, 8, 9] rfl rfl 0 0 rfl rfl) rfl rfl hl.1 rfl (lv_room (Nat.le_of_ble_eq_true rfl)) dX0_cornerToWatch_66 ⟨Nat.zero_le _, Nat.zero_le _⟩) ?_
        show W _ _ _ _ _ _ _ _ _ _ _ _ _ _ _ (F0 mX 69 ls [.int (nI (cA σ (wtb σ j))), .int (nI (cA σ (j + 1)))])
        refine lv_isub hx hb dX0_cornerToWatch_69 ?_
        refine lv_istore_n (lv' := [(3, .int ((nI (cA σ (j + 1))) - (nI (cA σ (wtb σ j))))), (0, .ref (a 0)), (1, .int (nI (wtb σ j))), (2, .int (nI (j + 1)))]) hx hb dX0_cornerToWatch_70 rfl hl (by decide) rfl (fun ls hl => ?_)
        refine lv_iload_n hx hb dX0_cornerToWatch_71 rfl (lv_at hl 0 rfl) ?_
        refine lv_if_gt (tgt := 92) hx hb dX0_cornerToWatch_72 (by decide) (fun c_72 => ?_) (fun c_72 => ?_)
        · skip
          have c_72 : cA σ (wtb σ j) < cA σ (j + 1) := subp (by omega) (by omega) c_72
          refine lv_iload_n hx hb dX0_cornerToWatch_92 rfl (lv_at hl 3 rfl) ?_
          refine lv_istore_n (lv' := [(1, .int (nI (j + 1))), (3, .int ((nI (cA σ (j + 1))) - (nI (cA σ (wtb σ j))))), (0, .ref (a 0)), (2, .int (nI (j + 1)))]) hx hb dX0_cornerToWatch_93 rfl hl (by decide) rfl (fun ls hl => ?_)
          have hl : lv_has ls 4 [(1, .int (nI (wtb σ (j + 1)))), (3, .int ((nI (cA σ (j + 1))) - (nI (cA σ (wtb σ j))))), (0, .ref (a 0)), (2, .int (nI (j + 1)))] := by rw [← show (nI (j + 1)) = (nI (wtb σ (j + 1))) from (congrArg nI (by show _ = (if wbt σ (j + 1) (wtb σ j) then j + 1 else wtb σ j); simp [wbt, c_72]))]; exact hl
          refine lv_iinc (v := (nI ((j + 1) + 1))) (lv' := [(2, .int (nI ((j + 1) + 1))), (1, .int (nI (wtb σ (j + 1)))), (3, .int ((nI (cA σ (j + 1))) - (nI (cA σ (wtb σ j))))), (0, .ref (a 0))]) hx hb dX0_cornerToWatch_94 hl (k := 3) rfl (nI_add (j + 1) 1) (by decide) rfl (fun ls hl => ?_)
          refine lv_goto (tgt := 53) hx hb dX0_cornerToWatch_97 (by decide) ?_
          exact ih53 (j + 1) ls ⟨lv_sub hl [3, 1, 0] rfl, (by omega)⟩ (by first | omega | (dsimp only; omega))
        · skip
          have c_72 : cA σ (j + 1) ≤ cA σ (wtb σ j) := subn (by omega) (by omega) c_72
          refine lv_iload_n hx hb dX0_cornerToWatch_75 rfl (lv_at hl 0 rfl) ?_
          refine lv_if_ne (tgt := 94) hx hb dX0_cornerToWatch_76 (by decide) (fun c_76 => ?_) (fun c_76 => ?_)
          · skip
            have c_76 : cA σ (j + 1) ≠ cA σ (wtb σ j) := subnz (by omega) (by omega) c_76
            have hl : lv_has ls 4 [(3, .int ((nI (cA σ (j + 1))) - (nI (cA σ (wtb σ j))))), (0, .ref (a 0)), (1, .int (nI (wtb σ (j + 1)))), (2, .int (nI (j + 1)))] := by rw [← show (nI (wtb σ j)) = (nI (wtb σ (j + 1))) from (congrArg nI (by show _ = (if wbt σ (j + 1) (wtb σ j) then j + 1 else wtb σ j); simp [wbt, Nat.not_lt.mpr c_72, c_76]))]; exact hl
            refine lv_iinc (v := (nI ((j + 1) + 1))) (lv' := [(2, .int (nI ((j + 1) + 1))), (3, .int ((nI (cA σ (j + 1))) - (nI (cA σ (wtb σ j))))), (0, .ref (a 0)), (1, .int (nI (wtb σ (j + 1))))]) hx hb dX0_cornerToWatch_94 hl (k := 3) rfl (nI_add (j + 1) 1) (by decide) rfl (fun ls hl => ?_)
            refine lv_goto (tgt := 53) hx hb dX0_cornerToWatch_97 (by decide) ?_
            exact ih53 (j + 1) ls ⟨lv_sub hl [2, 3, 0] rfl, (by omega)⟩ (by first | omega | (dsimp only; omega))
          · skip
            have c_76 : cA σ (j + 1) = cA σ (wtb σ j) := subz (by omega) (by omega) c_76
            refine lv_aload_n hx hb dX0_cornerToWatch_79 rfl (lv_at hl 1 rfl) ?_
            refine lv_iload_n hx hb dX0_cornerToWatch_80 rfl (lv_at hl 3 rfl) ?_
            refine rd_call (va_runV (As := [.int (nI (j + 1))]) (rest := []) ⟨hx, hb, hml, hown, hts⟩ (c_X0_rewardsAt l g cy  H.size a σ (bs b 5 (plF σ (b 5) 6)) bd (j + 1) hwf (BR_5 hbr) (fun i9 h9 => plF_n h9) (by omega)) ⟨(cB 1 hts wd29_15 wd1_12 wd29_12 rfl rfl (by decide +kernel) ⟨Nat.le_of_ble_eq_true rfl, Nat.le_of_ble_eq_true rfl⟩), hts _ wd29_13, hts _ wd29_14⟩ (pv hK hP hD hS hA hX [0, 1, 2, 3, 4, 5, 6, 7, 8, 9] rfl rfl 0 0 rfl rfl) rfl rfl hl.1 rfl (lv_room (Nat.le_of_ble_eq_true rfl)) dX0_cornerToWatch_81 ⟨Nat.zero_le _, Nat.zero_le _⟩) ?_
            show W _ _ _ _ _ _ _ _ _ _ _ _ _ _ _ (F0 mX 84 ls [.int (nI (rA σ (j + 1)))])
            refine lv_aload_n hx hb dX0_cornerToWatch_84 rfl (lv_at hl 1 rfl) ?_
            refine lv_iload_n hx hb dX0_cornerToWatch_85 rfl (lv_at hl 2 rfl) ?_
            refine rd_call (va_runV (As := [.int (nI (wtb σ j))]) (rest := [.int (nI (rA σ (j + 1)))]) ⟨hx, hb, hml, hown, hts⟩ (c_X0_rewardsAt l g cy  H.size a σ (bs b 5 (plF σ (b 5) 6)) bd (wtb σ j) hwf (BR_5 hbr) (fun i9 h9 => plF_n h9) (by omega)) ⟨(cB 1 hts wd29_15 wd1_12 wd29_12 rfl rfl (by decide +kernel) ⟨Nat.le_of_ble_eq_true rfl, Nat.le_of_ble_eq_true rfl⟩), hts _ wd29_13, hts _ wd29_14⟩ (pv hK hP hD hS hA hX [0, 1, 2, 3, 4, 5, 6, 7, 8, 9] rfl rfl 0 0 rfl rfl) rfl rfl hl.1 rfl (lv_room (Nat.le_of_ble_eq_true rfl)) dX0_cornerToWatch_86 ⟨Nat.zero_le _, Nat.zero_le _⟩) ?_
            show W _ _ _ _ _ _ _ _ _ _ _ _ _ _ _ (F0 mX 89 ls [.int (nI (rA σ (wtb σ j))), .int (nI (rA σ (j + 1)))])
            refine lv_icmp_le (tgt := 94) hx hb dX0_cornerToWatch_89 (by decide) (fun c_89 => ?_) (fun c_89 => ?_)
            · have c_89 := (nc_le (by omega) (by omega) c_89)
              have hl : lv_has ls 4 [(3, .int ((nI (cA σ (j + 1))) - (nI (cA σ (wtb σ j))))), (0, .ref (a 0)), (1, .int (nI (wtb σ (j + 1)))), (2, .int (nI (j + 1)))] := by rw [← show (nI (wtb σ j)) = (nI (wtb σ (j + 1))) from (congrArg nI (by show _ = (if wbt σ (j + 1) (wtb σ j) then j + 1 else wtb σ j); simp [wbt, Nat.not_lt.mpr c_72, c_76, Nat.not_lt.mpr c_89]))]; exact hl
              refine lv_iinc (v := (nI ((j + 1) + 1))) (lv' := [(2, .int (nI ((j + 1) + 1))), (3, .int ((nI (cA σ (j + 1))) - (nI (cA σ (wtb σ j))))), (0, .ref (a 0)), (1, .int (nI (wtb σ (j + 1))))]) hx hb dX0_cornerToWatch_94 hl (k := 3) rfl (nI_add (j + 1) 1) (by decide) rfl (fun ls hl => ?_)
              refine lv_goto (tgt := 53) hx hb dX0_cornerToWatch_97 (by decide) ?_
              exact ih53 (j + 1) ls ⟨lv_sub hl [2, 3, 0] rfl, (by omega)⟩ (by first | omega | (dsimp only; omega))
            · have c_89 := (nc_nle (by omega) (by omega) c_89)
              refine lv_iload_n hx hb dX0_cornerToWatch_92 rfl (lv_at hl 3 rfl) ?_
              refine lv_istore_n (lv' := [(1, .int (nI (j + 1))), (3, .int ((nI (cA σ (j + 1))) - (nI (cA σ (wtb σ j))))), (0, .ref (a 0)), (2, .int (nI (j + 1)))]) hx hb dX0_cornerToWatch_93 rfl hl (by decide) rfl (fun ls hl => ?_)
              have hl : lv_has ls 4 [(1, .int (nI (wtb σ (j + 1)))), (3, .int ((nI (cA σ (j + 1))) - (nI (cA σ (wtb σ j))))), (0, .ref (a 0)), (2, .int (nI (j + 1)))] := by rw [← show (nI (j + 1)) = (nI (wtb σ (j + 1))) from (congrArg nI (by show _ = (if wbt σ (j + 1) (wtb σ j) then j + 1 else wtb σ j); simp [wbt, Nat.not_lt.mpr c_72, c_76, c_89]))]; exact hl
              refine lv_iinc (v := (nI ((j + 1) + 1))) (lv' := [(2, .int (nI ((j + 1) + 1))), (1, .int (nI (wtb σ (j + 1)))), (3, .int ((nI (cA σ (j + 1))) - (nI (cA σ (wtb σ j))))), (0, .ref (a 0))]) hx hb dX0_cornerToWatch_94 hl (k := 3) rfl (nI_add (j + 1) 1) (by decide) rfl (fun ls hl => ?_)
              refine lv_goto (tgt := 53) hx hb dX0_cornerToWatch_97 (by decide) ?_
              exact ih53 (j + 1) ls ⟨lv_sub hl [3, 1, 0] rfl, (by omega)⟩ (by first | omega | (dsimp only; omega))
    · have c_17 := (nc_nle (by omega) (by omega) c_17)
      refine lv_aload_n hx hb dX0_cornerToWatch_20 rfl (lv_at hl 0 rfl) ?_
      refine va_get (D := g) (ci := 0) (v := .ref (a 9)) (C := RX0) (T := TX0) (N := 11) hx hb hts bgX0 hown hK hP 0 rfl rfl 4 (by decide) (hts _ wd2_16) (fun _ h9 => h9) rfl dX0_cornerToWatch_21 ?_
      refine lv_iload_n hx hb dX0_cornerToWatch_24 rfl (lv_at hl 1 rfl) ?_
      refine lv_aload_n hx hb dX0_cornerToWatch_25 rfl (lv_at hl 0 rfl) ?_
      refine lv_iload_n hx hb dX0_cornerToWatch_26 rfl (lv_at hl 1 rfl) ?_
      refine rd_call (va_runV (As := [.int (nI i)]) (rest := [.int (nI i), .ref (a 9)]) ⟨hx, hb, hml, hown, hts⟩ (c_X0_isMissing l g cy  H.size a σ (bs b 5 (plF σ (b 5) i)) bd i hwf (BR_5 hbr) (by omega)) ⟨(cB 1 hts wd13_19 wd1_12 wd13_16 rfl rfl (by decide +kernel) ⟨Nat.le_of_ble_eq_true rfl, Nat.le_of_ble_eq_true rfl⟩), hts _ wd13_17, hts _ wd13_18⟩ (pv hK hP hD hS hA hX [0, 1, 2, 3, 4, 5, 6, 7, 8, 9] rfl rfl 0 0 rfl rfl) rfl rfl hl.1 rfl (lv_room (Nat.le_of_ble_eq_true rfl)) dX0_cornerToWatch_27 ⟨Nat.zero_le _, Nat.zero_le _⟩) ?_
      show W _ _ _ _ _ _ _ _ _ _ _ _ _ _ _ (F0 mX 30 ls [.int (bI (decide (i < σ 0) && msg σ i)), .int (nI i), .ref (a 9)])
      refine lv_if_eq (tgt := 41) hx hb dX0_cornerToWatch_30 (by decide) (fun c_30 => ?_) (fun c_30 => ?_)
      · have c_30 := (bI_eq0.mp c_30)
        refine lv_iconst (v := (nI 0)) hx hb dX0_cornerToWatch_41 (by decide) ?_
        refine va_iast hx hb hK hP hD hS 9 0 rfl rfl (vp_in_nI (n := i) (by omega) (by omega)) dX0_cornerToWatch_42 (fun H locs hP hD hS => ?_)
        rw [nI_clamp (n := i) (by omega)] at hP hD
        have hP : va_P g vwCl [(a 0, .inr (0, [.ref (a 1), .ref (a 4), .ref (a 6), .ref (a 8), .ref (a 9), .int (nI (σ 2)), .int (nI (σ 3)), .int (nI (σ 4)), .int (nI (σ 5)), .int (nI (σ 6)), .int (nI (σ 7))])), (a 1, .inr (2, [.ref (a 2), .ref (a 3), .int (nI (cmk σ))])), aI cy (a 2) 144 (wv σ), aI cy (a 3) 12 ((bs b 5 (plF σ (b 5) i)) 1), (a 4, .inr (3, [.int (nI 6), .int (nI 11), .ref (a 5), .int (nI (σ 0))])), aI cy (a 5) 66 ((bs b 5 (plF σ (b 5) i)) 2), (a 6, .inr (3, [.int (nI 20), .int (nI 6), .ref (a 7), .int (nI (σ 1))])), aI cy (a 7) 120 ((bs b 5 (plF σ (b 5) i)) 3), aI cy (a 8) 8 (mS (pu σ)), aI cy (a 9) 6 (upd ((bs b 5 (plF σ (b 5) i)) 5) i (nI 0))] H := hP
        have hD : va_D A [(a 0, .inr (0, [.ref (a 1), .ref (a 4), .ref (a 6), .ref (a 8), .ref (a 9), .int (nI (σ 2)), .int (nI (σ 3)), .int (nI (σ 4)), .int (nI (σ 5)), .int (nI (σ 6)), .int (nI (σ 7))])), (a 1, .inr (2, [.ref (a 2), .ref (a 3), .int (nI (cmk σ))])), aI cy (a 2) 144 (wv σ), aI cy (a 3) 12 ((bs b 5 (plF σ (b 5) i)) 1), (a 4, .inr (3, [.int (nI 6), .int (nI 11), .ref (a 5), .int (nI (σ 0))])), aI cy (a 5) 66 ((bs b 5 (plF σ (b 5) i)) 2), (a 6, .inr (3, [.int (nI 20), .int (nI 6), .ref (a 7), .int (nI (σ 1))])), aI cy (a 7) 120 ((bs b 5 (plF σ (b 5) i)) 3), aI cy (a 8) 8 (mS (pu σ)), aI cy (a 9) 6 (upd ((bs b 5 (plF σ (b 5) i)) 5) i (nI 0))] := hD
        rw [show (upd ((bs b 5 (plF σ (b 5) i)) 5) i (nI 0)) = ((bs b 5 (plF σ (b 5) (i + 1))) 5) from (plF_s (by simp [plc, c_30]))] at hP hD
        refine lv_iinc (v := (nI (i + 1))) (lv' := [(1, .int (nI (i + 1))), (0, .ref (a 0))]) hx hb dX0_cornerToWatch_43 hl (k := 1) rfl (nI_add i 1) (by decide) rfl (fun ls hl => ?_)
        refine lv_goto (tgt := 11) hx hb dX0_cornerToWatch_46 (by decide) ?_
        exact ih11 (i + 1) H locs ls ⟨hP, hD, hS, lv_sub hl [1, 0] rfl, (by omega)⟩ (by first | omega | (dsimp only; omega))
      · have c_30 := (bI_ne0.mp c_30)
        have hi0 : i < σ 0 := by simp only [Bool.and_eq_true, decide_eq_true_eq] at c_30; exact c_30.1
        refine lv_aload_n hx hb dX0_cornerToWatch_33 rfl (lv_at hl 0 rfl) ?_
        refine lv_iload_n hx hb dX0_cornerToWatch_34 rfl (lv_at hl 1 rfl) ?_
        refine rd_call (va_runV (As := [.int (nI i)]) (rest := [.int (nI i), .ref (a 9)]) ⟨hx, hb, hml, hown, hts⟩ (c_X0_placesOf l g cy  H.size a σ (bs b 5 (plF σ (b 5) i)) bd i hwf (BR_5 hbr) (by omega)) ⟨(cB 1 hts wd24_5 wd1_12 wd29_7 rfl rfl (by decide +kernel) ⟨Nat.le_of_ble_eq_true rfl, Nat.le_of_ble_eq_true rfl⟩), hts _ wd24_3, hts _ wd24_4⟩ (pv hK hP hD hS hA hX [0, 1, 2, 3, 4, 5, 6, 7, 8, 9] rfl rfl 0 0 rfl rfl) rfl rfl hl.1 rfl (lv_room (Nat.le_of_ble_eq_true rfl)) dX0_cornerToWatch_35 ⟨Nat.zero_le _, Nat.zero_le _⟩) ?_
        show W _ _ _ _ _ _ _ _ _ _ _ _ _ _ _ (F0 mX 38 ls [.int (nI (mk (cbe σ i) 12)), .int (nI i), .ref (a 9)])
        refine lv_goto (tgt := 42) hx hb dX0_cornerToWatch_38 (by decide) ?_
        refine va_iast hx hb hK hP hD hS 9 0 rfl rfl (vp_in_nI (n := i) (by omega) (by omega)) dX0_cornerToWatch_42 (fun H locs hP hD hS => ?_)
        rw [nI_clamp (n := i) (by omega)] at hP hD
        have hP : va_P g vwCl [(a 0, .inr (0, [.ref (a 1), .ref (a 4), .ref (a 6), .ref (a 8), .ref (a 9), .int (nI (σ 2)), .int (nI (σ 3)), .int (nI (σ 4)), .int (nI (σ 5)), .int (nI (σ 6)), .int (nI (σ 7))])), (a 1, .inr (2, [.ref (a 2), .ref (a 3), .int (nI (cmk σ))])), aI cy (a 2) 144 (wv σ), aI cy (a 3) 12 ((bs b 5 (plF σ (b 5) i)) 1), (a 4, .inr (3, [.int (nI 6), .int (nI 11), .ref (a 5), .int (nI (σ 0))])), aI cy (a 5) 66 ((bs b 5 (plF σ (b 5) i)) 2), (a 6, .inr (3, [.int (nI 20), .int (nI 6), .ref (a 7), .int (nI (σ 1))])), aI cy (a 7) 120 ((bs b 5 (plF σ (b 5) i)) 3), aI cy (a 8) 8 (mS (pu σ)), aI cy (a 9) 6 (upd ((bs b 5 (plF σ (b 5) i)) 5) i (nI (mk (cbe σ i) 12)))] H := hP
        have hD : va_D A [(a 0, .inr (0, [.ref (a 1), .ref (a 4), .ref (a 6), .ref (a 8), .ref (a 9), .int (nI (σ 2)), .int (nI (σ 3)), .int (nI (σ 4)), .int (nI (σ 5)), .int (nI (σ 6)), .int (nI (σ 7))])), (a 1, .inr (2, [.ref (a 2), .ref (a 3), .int (nI (cmk σ))])), aI cy (a 2) 144 (wv σ), aI cy (a 3) 12 ((bs b 5 (plF σ (b 5) i)) 1), (a 4, .inr (3, [.int (nI 6), .int (nI 11), .ref (a 5), .int (nI (σ 0))])), aI cy (a 5) 66 ((bs b 5 (plF σ (b 5) i)) 2), (a 6, .inr (3, [.int (nI 20), .int (nI 6), .ref (a 7), .int (nI (σ 1))])), aI cy (a 7) 120 ((bs b 5 (plF σ (b 5) i)) 3), aI cy (a 8) 8 (mS (pu σ)), aI cy (a 9) 6 (upd ((bs b 5 (plF σ (b 5) i)) 5) i (nI (mk (cbe σ i) 12)))] := hD
        rw [show (upd ((bs b 5 (plF σ (b 5) i)) 5) i (nI (mk (cbe σ i) 12))) = ((bs b 5 (plF σ (b 5) (i + 1))) 5) from (plF_s (by simp [plc, c_30]))] at hP hD
        refine lv_iinc (v := (nI (i + 1))) (lv' := [(1, .int (nI (i + 1))), (0, .ref (a 0))]) hx hb dX0_cornerToWatch_43 hl (k := 1) rfl (nI_add i 1) (by decide) rfl (fun ls hl => ?_)
        refine lv_goto (tgt := 11) hx hb dX0_cornerToWatch_46 (by decide) ?_
        exact ih11 (i + 1) H locs ls ⟨hP, hD, hS, lv_sub hl [1, 0] rfl, (by omega)⟩ (by first | omega | (dsimp only; omega))
  · have c_4 := (nz_eq c_4 (by omega))
    have hct := ct_le (msg σ) (σ 0)
    refine lv_iconst (v := (nI NN)) hx hb dX0_cornerToWatch_7 (by decide) ?_
    exact wr_i b (by rw [show wat σ = NN from if_pos c_4]) hbr hP hS hx hb hr dX0_cornerToWatch_8 hlk
set_option maxHeartbeats 4000000 in
set_option maxRecDepth 100000 in
theorem c_X0_isMissing2 (l : Launch) (g : va_G) (cy : Nat → ClassId) (sz : Nat) (a : Nat → Nat) (σ : Nat → Nat) (b : Nat → Nat → Int32) (bd : Nat) (d : Nat) (q : Bool) (hn0 : σ 0 ≤ 6) (hg9 : getR (b 2) 11 (σ 0) (nI d) 5 = bI q) : Met l yX0_isMissing (Cond.code yX0_isMissing cX0_isMissing 2 (some .boolean) :: wsL_law) ({ frames := 1, cells := 0, slots := 0, locals := 23 } : Room) (va_Pc [.ref (a 0), .int (nI d)] (pr g cy [(a 0, .inr (0, [.ref (a 1), .ref (a 4), .ref (a 6), .ref (a 8), .ref (a 9), .int (nI (σ 2)), .int (nI (σ 3)), .int (nI (σ 4)), .int (nI (σ 5)), .int (nI (σ 6)), .int (nI (σ 7))])), (a 1, .inr (2, [.ref (a 2), .ref (a 3), .int (nI (cmk σ))])), aI cy (a 2) 144 (wv σ), aI cy (a 3) 12 (b 1), (a 4, .inr (3, [.int (nI 6), .int (nI 11), .ref (a 5), .int (nI (σ 0))])), aI cy (a 5) 66 (b 2), (a 6, .inr (3, [.int (nI 20), .int (nI 6), .ref (a 7), .int (nI (σ 1))])), aI cy (a 7) 120 (b 3), aI cy (a 8) 8 (mS (pu σ)), aI cy (a 9) 6 (b 5)] sz)) (rd_Q (some (.int (bI q)))) 0 0 (nF) := by
  refine mt_of (cc := cX0_isMissing) (maxL := 2) (ret := (some .boolean)) (by decide +kernel) (Nat.le_of_ble_eq_true rfl) ?_
  intro pX eX s mX below meth cX ls A hx hb hr hml hown hts hlk hin hsz hAe hA hP hD hK hX hl
  have hl : lv_has ls 2 [(0, .ref (a 0)), (1, .int (nI d))] := hl
  have hS : va_S A s.heap s.heap [] := va_S.rf
  refine lv_aload_n hx hb dX0_isMissing_0 rfl (lv_at hl 0 rfl) ?_
  refine va_get (D := g) (ci := 0) (v := .ref (a 4)) (C := RX0) (T := TX0) (N := 11) hx hb hts bgX0 hown hK hP 0 rfl rfl 1 (by decide) (hts _ wd2_12) (fun _ h9 => h9) rfl dX0_isMissing_1 ?_
  refine lv_iload_n hx hb dX0_isMissing_4 rfl (lv_at hl 1 rfl) ?_
  refine lv_iconst (v := (nI 5)) hx hb dX0_isMissing_5 (by decide) ?_
  refine rd_call (va_runV (As := [.int (nI d), .int (nI 5)]) (rest := []) ⟨hx, hb, hml, hown, hts⟩ (c_X3_get l g cy (a 4) (a 5) s.heap.size 6 11 66 (b 2) (σ 0) (nI d) 5 (by omega) (by omega) (by omega) (by omega) (by omega) (by omega)) ⟨(cB 2 hts wd13_23 wd2_11 wd13_20 rfl rfl (by decide +kernel) ⟨Nat.le_of_ble_eq_true rfl, Nat.le_of_ble_eq_true rfl⟩), hts _ wd13_21, hts _ wd13_22⟩ (pv hK hP hD hS hA hX [4, 5] rfl rfl 3 4 rfl rfl) rfl rfl hl.1 rfl (lv_room (Nat.le_of_ble_eq_true rfl)) dX0_isMissing_6 ⟨Nat.zero_le _, Nat.zero_le _⟩) ?_
  show W _ _ _ _ _ _ _ _ _ _ _ _ _ _ _ (F0 mX 9 ls [.int (getR (b 2) 11 (σ 0) (nI d) 5)])
  refine ti (show (getR (b 2) 11 (σ 0) (nI d) 5) = (bI q) from hg9) ?_
  refine lv_iconst (v := (nI 1)) hx hb dX0_isMissing_9 (by decide) ?_
  refine ti (show (nI 1) = (bI true) from rfl) ?_
  refine lv_icmp_ne (tgt := 17) hx hb dX0_isMissing_10 (by decide) (fun c_10 => ?_) (fun c_10 => ?_)
  · skip
    have c_10 : q = false := (by cases q <;> simp_all)
    refine lv_iconst (v := (nI 0)) hx hb dX0_isMissing_17 (by decide) ?_
    exact rd_z (by first | (rw [c_10]; rfl)) hx hb hr dX0_isMissing_18 hlk
  · skip
    have c_10 : q = true := (by cases q <;> simp_all [bI])
    refine lv_iconst (v := (nI 1)) hx hb dX0_isMissing_13 (by decide) ?_
    refine lv_goto (tgt := 18) hx hb dX0_isMissing_14 (by decide) ?_
    exact rd_z (by first | (rw [c_10]; rfl)) hx hb hr dX0_isMissing_18 hlk
set_option maxHeartbeats 4000000 in
set_option maxRecDepth 100000 in
theorem c_X0_passHours (l : Launch) (g : va_G) (cy : Nat → ClassId) (sz : Nat) (a : Nat → Nat) (σ : Nat → Nat) (b : Nat → Nat → Int32) (bd : Nat) (vn : Int32) (hwf : WF bd σ) (hbr : BR σ b) : Met l yX0_passHours (Cond.code yX0_passHours cX0_passHours 7 (some .int) :: wsL_law) ({ frames := 2, cells := 0, slots := 0, locals := 44 } : Room) (va_Pc [.ref (a 0), .int vn] (pr g cy [(a 0, .inr (0, [.ref (a 1), .ref (a 4), .ref (a 6), .ref (a 8), .ref (a 9), .int (nI (σ 2)), .int (nI (σ 3)), .int (nI (σ 4)), .int (nI (σ 5)), .int (nI (σ 6)), .int (nI (σ 7))])), (a 1, .inr (2, [.ref (a 2), .ref (a 3), .int (nI (cmk σ))])), aI cy (a 2) 144 (wv σ), aI cy (a 3) 12 (b 1), (a 4, .inr (3, [.int (nI 6), .int (nI 11), .ref (a 5), .int (nI (σ 0))])), aI cy (a 5) 66 (b 2), (a 6, .inr (3, [.int (nI 20), .int (nI 6), .ref (a 7), .int (nI (σ 1))])), aI cy (a 7) 120 (b 3), aI cy (a 8) 8 (mS (pu σ)), aI cy (a 9) 6 (b 5)] sz)) (wr_Q (fun b1 : Nat → Nat → Int32 => (some (.int (nI (hoursA σ vn))))) (fun b1 : Nat → Nat → Int32 => (BR (hoursR σ vn) b1)) (fun b1 : Nat → Nat → Int32 => [(a 0, .inr (0, [.ref (a 1), .ref (a 4), .ref (a 6), .ref (a 8), .ref (a 9), .int (nI ((hoursR σ vn) 2)), .int (nI ((hoursR σ vn) 3)), .int (nI ((hoursR σ vn) 4)), .int (nI ((hoursR σ vn) 5)), .int (nI ((hoursR σ vn) 6)), .int (nI ((hoursR σ vn) 7))])), (a 1, .inr (2, [.ref (a 2), .ref (a 3), .int (nI (cmk (hoursR σ vn)))])), aI cy (a 2) 144 (wv (hoursR σ vn)), aI cy (a 3) 12 (b1 1), (a 4, .inr (3, [.int (nI 6), .int (nI 11), .ref (a 5), .int (nI ((hoursR σ vn) 0))])), aI cy (a 5) 66 (b1 2), (a 6, .inr (3, [.int (nI 20), .int (nI 6), .ref (a 7), .int (nI ((hoursR σ vn) 1))])), aI cy (a 7) 120 (b1 3), aI cy (a 8) 8 (mS (pu (hoursR σ vn))), aI cy (a 9) 6 (b1 5)]) g (va_A [(a 0, .inr (0, [.ref (a 1), .ref (a 4), .ref (a 6), .ref (a 8), .ref (a 9), .int (nI (σ 2)), .int (nI (σ 3)), .int (nI (σ 4)), .int (nI (σ 5)), .int (nI (σ 6)), .int (nI (σ 7))])), (a 1, .inr (2, [.ref (a 2), .ref (a 3), .int (nI (cmk σ))])), aI cy (a 2) 144 (wv σ), aI cy (a 3) 12 (b 1), (a 4, .inr (3, [.int (nI 6), .int (nI 11), .ref (a 5), .int (nI (σ 0))])), aI cy (a 5) 66 (b 2), (a 6, .inr (3, [.int (nI 20), .int (nI 6), .ref (a 7), .int (nI (σ 1))])), aI cy (a 7) 120 (b 3), aI cy (a 8) 8 (mS (pu σ)), aI cy (a 9) 6 (b 5)] sz)) 0 0 (va_A [(a 0, .inr (0, [.ref (a 1), .ref (a 4), .ref (a 6), .ref (a 8), .ref (a 9), .int (nI (σ 2)), .int (nI (σ 3)), .int (nI (σ 4)), .int (nI (σ 5)), .int (nI (σ 6)), .int (nI (σ 7))])), (a 1, .inr (2, [.ref (a 2), .ref (a 3), .int (nI (cmk σ))])), aI cy (a 2) 144 (wv σ), aI cy (a 3) 12 (b 1), (a 4, .inr (3, [.int (nI 6), .int (nI 11), .ref (a 5), .int (nI (σ 0))])), aI cy (a 5) 66 (b 2), (a 6, .inr (3, [.int (nI 20), .int (nI 6), .ref (a 7), .int (nI (σ 1))])), aI cy (a 7) 120 (b 3), aI cy (a 8) 8 (mS (pu σ)), aI cy (a 9) 6 (b 5)] sz) := by
  refine mt_of (cc := cX0_passHours) (maxL := 7) (ret := (some .int)) (by decide +kernel) (Nat.le_of_ble_eq_true rfl) ?_
  intro pX eX s mX below meth cX ls A hx hb hr hml hown hts hlk hin hsz hAe hA hP hD hK hX hl
  subst hsz
  rw [← hAe]
  clear hAe
  have hl : lv_has ls 7 [(0, .ref (a 0)), (1, .int vn)] := hl
  have hS : va_S A s.heap s.heap [] := va_S.rf
  have hn0 := hwf.n0
  have hn1 := hwf.n1
  have hh2 := hwf.h2
  refine lv_aload_n hx hb dX0_passHours_0 rfl (lv_at hl 0 rfl) ?_
  refine lv_iload_n hx hb dX0_passHours_1 rfl (lv_at hl 1 rfl) ?_
  refine rd_call (va_runV (As := [.int vn]) (rest := []) ⟨hx, hb, hml, hown, hts⟩ (c_X0_faultOfPassing l g cy  s.heap.size a σ b bd vn hwf hbr) ⟨(cB 1 hts wd18_1 wd1_12 wd17_22 rfl rfl (by decide +kernel) ⟨Nat.le_of_ble_eq_true rfl, Nat.le_of_ble_eq_true rfl⟩), hts _ wd17_23, hts _ wd18_0⟩ (pv hK hP hD hS hA hX [0, 1, 2, 3, 4, 5, 6, 7, 8, 9] rfl rfl 0 0 rfl rfl) rfl rfl hl.1 rfl (lv_room (Nat.le_of_ble_eq_true rfl)) dX0_passHours_2 ⟨Nat.zero_le _, Nat.zero_le _⟩) ?_
  show W _ _ _ _ _ _ _ _ _ _ _ _ _ _ _ (F0 mX 5 ls [.int (nI (fPass vn))])
  have hfp : fPass vn < 4 := by unfold fPass; split <;> omega
  refine lv_if_eq (tgt := 11) hx hb dX0_passHours_5 (by decide) (fun c_5 => ?_) (fun c_5 => ?_)
  · have c_5 := (nz_eq c_5 (by omega))
    obtain ⟨n9, rfl, hn91, hn92⟩ := fPass_0 c_5
    have hs9 : hoursR σ (nI n9) = hoS σ n9 := by unfold hoursR; rw [if_pos c_5, nI_clamp (by omega)]
    have hsA : hoursA σ (nI n9) = sm (gro σ n9) (σ 0) := by unfold hoursA; rw [if_pos c_5, nI_clamp (by omega)]
    refine lv_iconst (v := (nI 0)) hx hb dX0_passHours_11 (by decide) ?_
    refine lv_istore_n (lv' := [(2, .int (nI 0)), (0, .ref (a 0)), (1, .int (nI n9))]) hx hb dX0_passHours_12 rfl hl (by decide) rfl (fun ls hl => ?_)
    refine lv_iconst (v := (nI 0)) hx hb dX0_passHours_13 (by decide) ?_
    refine lv_istore_n (lv' := [(3, .int (nI 0)), (2, .int (nI 0)), (0, .ref (a 0)), (1, .int (nI n9))]) hx hb dX0_passHours_14 rfl hl (by decide) rfl (fun ls hl => ?_)
    rw [show (b 2) = ((bs b 2 (hoF σ n9 (b 2) 0)) 2) from hoF_0.symm] at hP hD
    have hl : lv_has ls 7 [(3, .int (nI 0)), (2, .int (nI (sm (gro σ n9) 0))), (0, .ref (a 0)), (1, .int (nI n9))] := by rw [← show (nI 0) = (nI (sm (gro σ n9) 0)) from rfl]; exact hl
    refine lp_rule (σ := (Nat)) (fun x9 H9 locs9 ls9 => va_P g vwCl [(a 0, .inr (0, [.ref (a 1), .ref (a 4), .ref (a 6), .ref (a 8), .ref (a 9), .int (nI (σ 2)), .int (nI (σ 3)), .int (nI (σ 4)), .int (nI (σ 5)), .int (nI (σ 6)), .int (nI (σ 7))])), (a 1, .inr (2, [.ref (a 2), .ref (a 3), .int (nI (cmk σ))])), aI cy (a 2) 144 (wv σ), aI cy (a 3) 12 ((bs b 2 (hoF σ n9 (b 2) x9)) 1), (a 4, .inr (3, [.int (nI 6), .int (nI 11), .ref (a 5), .int (nI (σ 0))])), aI cy (a 5) 66 ((bs b 2 (hoF σ n9 (b 2) x9)) 2), (a 6, .inr (3, [.int (nI 20), .int (nI 6), .ref (a 7), .int (nI (σ 1))])), aI cy (a 7) 120 ((bs b 2 (hoF σ n9 (b 2) x9)) 3), aI cy (a 8) 8 (mS (pu σ)), aI cy (a 9) 6 ((bs b 2 (hoF σ n9 (b 2) x9)) 5)] H9 ∧ va_D A [(a 0, .inr (0, [.ref (a 1), .ref (a 4), .ref (a 6), .ref (a 8), .ref (a 9), .int (nI (σ 2)), .int (nI (σ 3)), .int (nI (σ 4)), .int (nI (σ 5)), .int (nI (σ 6)), .int (nI (σ 7))])), (a 1, .inr (2, [.ref (a 2), .ref (a 3), .int (nI (cmk σ))])), aI cy (a 2) 144 (wv σ), aI cy (a 3) 12 ((bs b 2 (hoF σ n9 (b 2) x9)) 1), (a 4, .inr (3, [.int (nI 6), .int (nI 11), .ref (a 5), .int (nI (σ 0))])), aI cy (a 5) 66 ((bs b 2 (hoF σ n9 (b 2) x9)) 2), (a 6, .inr (3, [.int (nI 20), .int (nI 6), .ref (a 7), .int (nI (σ 1))])), aI cy (a 7) 120 ((bs b 2 (hoF σ n9 (b 2) x9)) 3), aI cy (a 8) 8 (mS (pu σ)), aI cy (a 9) 6 ((bs b 2 (hoF σ n9 (b 2) x9)) 5)] ∧ va_S A s.heap H9 locs9 ∧ lv_has ls9 7 [(0, .ref (a 0)), (1, .int (nI n9)), (2, .int (nI (sm (gro σ n9) x9))), (3, .int (nI x9))] ∧ (x9 ≤ σ 0)) (fun x9 => σ 0 - x9) (0) ⟨hP, hD, hS, lv_sub hl [2, 3, 1, 0] rfl, (by omega)⟩ ?_
    rintro i H locs ls ⟨hP, hD, hS, hl, hi⟩ ih15
    try dsimp only at hl hi hP hD ih15
    refine lv_iload_n hx hb dX0_passHours_15 rfl (lv_at hl 3 rfl) ?_
    refine lv_aload_n hx hb dX0_passHours_16 rfl (lv_at hl 0 rfl) ?_
    refine va_get (D := g) (ci := 0) (v := .ref (a 4)) (C := RX0) (T := TX0) (N := 11) hx hb hts bgX0 hown hK hP 0 rfl rfl 1 (by decide) (hts _ wd2_12) (fun _ h9 => h9) rfl dX0_passHours_17 ?_
    refine rd_call (va_runV (As := []) (rest := [.int (nI i)]) ⟨hx, hb, hml, hown, hts⟩ (c_X3_count l g cy (a 4) (a 5) H.size 6 11 66 ((bs b 2 (hoF σ n9 (b 2) i)) 2) (σ 0) ) ⟨(cB 0 hts wd13_15 wd2_11 wd13_12 rfl rfl (by decide +kernel) ⟨Nat.le_of_ble_eq_true rfl, Nat.le_of_ble_eq_true rfl⟩), hts _ wd13_13, hts _ wd13_14⟩ (pv hK hP hD hS hA hX [4, 5] rfl rfl 3 4 rfl rfl) rfl rfl hl.1 rfl (lv_room (Nat.le_of_ble_eq_true rfl)) dX0_passHours_20 ⟨Nat.zero_le _, Nat.zero_le _⟩) ?_
    show W _ _ _ _ _ _ _ _ _ _ _ _ _ _ _ (F0 mX 23 ls [.int (nI (σ 0)), .int (nI i)])
    refine lv_icmp_ge (tgt := 110) hx hb dX0_passHours_23 (by decide) (fun c_23 => ?_) (fun c_23 => ?_)
    · have c_23 := (nc_le (by omega) (by omega) c_23)
      have e9 : i = σ 0 := by omega
      subst e9
      refine lv_aload_n hx hb dX0_passHours_110 rfl (lv_at hl 0 rfl) ?_
      refine lv_dup hx hb dX0_passHours_111 rfl ?_
      refine va_get (D := g) (ci := 0) (v := .int (nI (σ 2))) (C := RX0) (T := TX0) (N := 11) hx hb hts bgX0 hown hK hP 0 rfl rfl 5 (by decide) (hts _ wd4_0) (fun _ h9 => h9) rfl dX0_passHours_112 ?_
      refine lv_iload_n hx hb dX0_passHours_115 rfl (lv_at hl 1 rfl) ?_
      refine lv_iadd hx hb dX0_passHours_116 ?_
      refine ti (nI_add (σ 2) n9) ?_
      refine va_put (D := g) (ci := 0) (v := .int (nI ((σ 2) + n9))) (ty := .int) (C := RX0) (T := TX0) (N := 11) hx hb hts bgX0 tyX0 tyX0_ok nmX0 hown hK hP hD hS 0 rfl rfl 5 (by decide) (hts _ wd4_0) (fun _ h9 => h9) rfl (by decide +kernel) rfl rfl (Nat.le_of_ble_eq_true rfl) dX0_passHours_117 (fun H locs hP hD hS => ?_)
      have hP : va_P g vwCl [(a 0, .inr (0, [.ref (a 1), .ref (a 4), .ref (a 6), .ref (a 8), .ref (a 9), .int (nI ((σ 2) + n9)), .int (nI (σ 3)), .int (nI (σ 4)), .int (nI (σ 5)), .int (nI (σ 6)), .int (nI (σ 7))])), (a 1, .inr (2, [.ref (a 2), .ref (a 3), .int (nI (cmk σ))])), aI cy (a 2) 144 (wv σ), aI cy (a 3) 12 ((bs b 2 (hoF σ n9 (b 2) (σ 0))) 1), (a 4, .inr (3, [.int (nI 6), .int (nI 11), .ref (a 5), .int (nI (σ 0))])), aI cy (a 5) 66 ((bs b 2 (hoF σ n9 (b 2) (σ 0))) 2), (a 6, .inr (3, [.int (nI 20), .int (nI 6), .ref (a 7), .int (nI (σ 1))])), aI cy (a 7) 120 ((bs b 2 (hoF σ n9 (b 2) (σ 0))) 3), aI cy (a 8) 8 (mS (pu σ)), aI cy (a 9) 6 ((bs b 2 (hoF σ n9 (b 2) (σ 0))) 5)] H := hP
      have hD : va_D A [(a 0, .inr (0, [.ref (a 1), .ref (a 4), .ref (a 6), .ref (a 8), .ref (a 9), .int (nI ((σ 2) + n9)), .int (nI (σ 3)), .int (nI (σ 4)), .int (nI (σ 5)), .int (nI (σ 6)), .int (nI (σ 7))])), (a 1, .inr (2, [.ref (a 2), .ref (a 3), .int (nI (cmk σ))])), aI cy (a 2) 144 (wv σ), aI cy (a 3) 12 ((bs b 2 (hoF σ n9 (b 2) (σ 0))) 1), (a 4, .inr (3, [.int (nI 6), .int (nI 11), .ref (a 5), .int (nI (σ 0))])), aI cy (a 5) 66 ((bs b 2 (hoF σ n9 (b 2) (σ 0))) 2), (a 6, .inr (3, [.int (nI 20), .int (nI 6), .ref (a 7), .int (nI (σ 1))])), aI cy (a 7) 120 ((bs b 2 (hoF σ n9 (b 2) (σ 0))) 3), aI cy (a 8) 8 (mS (pu σ)), aI cy (a 9) 6 ((bs b 2 (hoF σ n9 (b 2) (σ 0))) 5)] := hD
      refine lv_aload_n hx hb dX0_passHours_120 rfl (lv_at hl 0 rfl) ?_
      refine lv_dup hx hb dX0_passHours_121 rfl ?_
      refine va_get (D := g) (ci := 0) (v := .int (nI (σ 3))) (C := RX0) (T := TX0) (N := 11) hx hb hts bgX0 hown hK hP 0 rfl rfl 6 (by decide) (hts _ wd4_1) (fun _ h9 => h9) rfl dX0_passHours_122 ?_
      refine lv_iload_n hx hb dX0_passHours_125 rfl (lv_at hl 2 rfl) ?_
      refine lv_iadd hx hb dX0_passHours_126 ?_
      refine ti (nI_add (σ 3) (sm (gro σ n9) (σ 0))) ?_
      refine va_put (D := g) (ci := 0) (v := .int (nI ((σ 3) + (sm (gro σ n9) (σ 0))))) (ty := .int) (C := RX0) (T := TX0) (N := 11) hx hb hts bgX0 tyX0 tyX0_ok nmX0 hown hK hP hD hS 0 rfl rfl 6 (by decide) (hts _ wd4_1) (fun _ h9 => h9) rfl (by decide +kernel) rfl rfl (Nat.le_of_ble_eq_true rfl) dX0_passHours_127 (fun H locs hP hD hS => ?_)
      have hP : va_P g vwCl [(a 0, .inr (0, [.ref (a 1), .ref (a 4), .ref (a 6), .ref (a 8), .ref (a 9), .int (nI ((σ 2) + n9)), .int (nI ((σ 3) + (sm (gro σ n9) (σ 0)))), .int (nI (σ 4)), .int (nI (σ 5)), .int (nI (σ 6)), .int (nI (σ 7))])), (a 1, .inr (2, [.ref (a 2), .ref (a 3), .int (nI (cmk σ))])), aI cy (a 2) 144 (wv σ), aI cy (a 3) 12 ((bs b 2 (hoF σ n9 (b 2) (σ 0))) 1), (a 4, .inr (3, [.int (nI 6), .int (nI 11), .ref (a 5), .int (nI (σ 0))])), aI cy (a 5) 66 ((bs b 2 (hoF σ n9 (b 2) (σ 0))) 2), (a 6, .inr (3, [.int (nI 20), .int (nI 6), .ref (a 7), .int (nI (σ 1))])), aI cy (a 7) 120 ((bs b 2 (hoF σ n9 (b 2) (σ 0))) 3), aI cy (a 8) 8 (mS (pu σ)), aI cy (a 9) 6 ((bs b 2 (hoF σ n9 (b 2) (σ 0))) 5)] H := hP
      have hD : va_D A [(a 0, .inr (0, [.ref (a 1), .ref (a 4), .ref (a 6), .ref (a 8), .ref (a 9), .int (nI ((σ 2) + n9)), .int (nI ((σ 3) + (sm (gro σ n9) (σ 0)))), .int (nI (σ 4)), .int (nI (σ 5)), .int (nI (σ 6)), .int (nI (σ 7))])), (a 1, .inr (2, [.ref (a 2), .ref (a 3), .int (nI (cmk σ))])), aI cy (a 2) 144 (wv σ), aI cy (a 3) 12 ((bs b 2 (hoF σ n9 (b 2) (σ 0))) 1), (a 4, .inr (3, [.int (nI 6), .int (nI 11), .ref (a 5), .int (nI (σ 0))])), aI cy (a 5) 66 ((bs b 2 (hoF σ n9 (b 2) (σ 0))) 2), (a 6, .inr (3, [.int (nI 20), .int (nI 6), .ref (a 7), .int (nI (σ 1))])), aI cy (a 7) 120 ((bs b 2 (hoF σ n9 (b 2) (σ 0))) 3), aI cy (a 8) 8 (mS (pu σ)), aI cy (a 9) 6 ((bs b 2 (hoF σ n9 (b 2) (σ 0))) 5)] := hD
      refine lv_iload_n hx hb dX0_passHours_130 rfl (lv_at hl 2 rfl) ?_
      have hlo : ∀ i, 16 ≤ i → i < 40 → hoS σ n9 i = σ i := (fun i h1 h2 => hoS_lo (by omega) h2)
      obtain ⟨hP, hD⟩ := arr_c (wv (hoS σ n9)) hP hD 2 rfl (wv_cl (cmk_of hlo))
      obtain ⟨hP, hD⟩ := arr_c (mS (pu (hoS σ n9))) hP hD 8 rfl (pu_of ((fun i h1 h2 => hoS_lo h1 (by omega))))
      have e0 : hoS σ n9 0 = σ 0 := rfl
      have e1 : hoS σ n9 1 = σ 1 := rfl
      have e2 : hoS σ n9 2 = σ 2 + n9 := rfl
      have e3 : hoS σ n9 3 = σ 3 + sm (gro σ n9) (σ 0) := rfl
      have e4 : hoS σ n9 4 = σ 4 := rfl
      have e5 : hoS σ n9 5 = σ 5 := rfl
      have e6 : hoS σ n9 6 = σ 6 := rfl
      have e7 : hoS σ n9 7 = σ 7 := rfl
      exact wr_i (bs b 2 (hoF σ n9 (b 2) (σ 0))) (by rw [hsA]) (by rw [hs9]; exact BR_hours hbr hn0) (by rw [hs9, cmk_of hlo, e0, e1, e2, e3, e4, e5, e6, e7]; exact hP) hS hx hb hr dX0_passHours_131 hlk
    · have c_23 := (nc_nle (by omega) (by omega) c_23)
      have hdb := hwf.db (show i < σ 0 by omega)
      refine lv_aload_n hx hb dX0_passHours_26 rfl (lv_at hl 0 rfl) ?_
      refine va_get (D := g) (ci := 0) (v := .int (nI (σ 2))) (C := RX0) (T := TX0) (N := 11) hx hb hts bgX0 hown hK hP 0 rfl rfl 5 (by decide) (hts _ wd4_0) (fun _ h9 => h9) rfl dX0_passHours_27 ?_
      refine lv_aload_n hx hb dX0_passHours_30 rfl (lv_at hl 0 rfl) ?_
      refine va_get (D := g) (ci := 0) (v := .ref (a 4)) (C := RX0) (T := TX0) (N := 11) hx hb hts bgX0 hown hK hP 0 rfl rfl 1 (by decide) (hts _ wd2_12) (fun _ h9 => h9) rfl dX0_passHours_31 ?_
      refine lv_iload_n hx hb dX0_passHours_34 rfl (lv_at hl 3 rfl) ?_
      refine lv_iconst (v := (nI 3)) hx hb dX0_passHours_35 (by decide) ?_
      refine rd_call (va_runV (As := [.int (nI i), .int (nI 3)]) (rest := [.int (nI (σ 2))]) ⟨hx, hb, hml, hown, hts⟩ (c_X3_get l g cy (a 4) (a 5) H.size 6 11 66 ((bs b 2 (hoF σ n9 (b 2) i)) 2) (σ 0) (nI i) 3 (by omega) (by omega) (by omega) (by omega) (by omega) (by omega)) ⟨(cB 2 hts wd13_23 wd2_11 wd13_20 rfl rfl (by decide +kernel) ⟨Nat.le_of_ble_eq_true rfl, Nat.le_of_ble_eq_true rfl⟩), hts _ wd13_21, hts _ wd13_22⟩ (pv hK hP hD hS hA hX [4, 5] rfl rfl 3 4 rfl rfl) rfl rfl hl.1 rfl (lv_room (Nat.le_of_ble_eq_true rfl)) dX0_passHours_36 ⟨Nat.zero_le _, Nat.zero_le _⟩) ?_
      show W _ _ _ _ _ _ _ _ _ _ _ _ _ _ _ (F0 mX 39 ls [.int (getR ((bs b 2 (hoF σ n9 (b 2) i)) 2) 11 (σ 0) (nI i) 3), .int (nI (σ 2))])
      refine ti (show (getR ((bs b 2 (hoF σ n9 (b 2) i)) 2) 11 (σ 0) (nI i) 3) = (nI (dg σ i 3)) from (hoF_g hbr hn0 (show i < σ 0 by omega) (by decide))) ?_
      refine lv_isub hx hb dX0_passHours_39 ?_
      refine ti (show ((nI (σ 2)) - (nI (dg σ i 3))) = (nI (σ 2 - dg σ i 3)) from (pk_sub (by omega))) ?_
      refine lv_istore (lv' := [(4, .int (nI (σ 2 - dg σ i 3))), (0, .ref (a 0)), (1, .int (nI n9)), (2, .int (nI (sm (gro σ n9) i))), (3, .int (nI i))]) hx hb dX0_passHours_40 hl (by decide) rfl (fun ls hl => ?_)
      refine lv_iload hx hb dX0_passHours_42 (lv_at hl 0 rfl) ?_
      refine lv_iload_n hx hb dX0_passHours_44 rfl (lv_at hl 2 rfl) ?_
      refine lv_iadd hx hb dX0_passHours_45 ?_
      refine ti (nI_add (σ 2 - dg σ i 3) n9) ?_
      refine lv_bipush (v := (nI 24)) hx hb dX0_passHours_46 (by decide) ?_
      refine lv_idiv hx hb dX0_passHours_48 (nI_ne0 (by omega) (by omega)) ?_
      refine ti (pk_div (a := ((σ 2 - dg σ i 3) + n9)) (d := 24) (by omega) (by omega) (by omega)) ?_
      refine lv_iload hx hb dX0_passHours_49 (lv_at hl 0 rfl) ?_
      refine lv_bipush (v := (nI 24)) hx hb dX0_passHours_51 (by decide) ?_
      refine lv_idiv hx hb dX0_passHours_53 (nI_ne0 (by omega) (by omega)) ?_
      refine ti (pk_div (a := (σ 2 - dg σ i 3)) (d := 24) (by omega) (by omega) (by omega)) ?_
      refine lv_isub hx hb dX0_passHours_54 ?_
      refine ti (show ((nI (((σ 2 - dg σ i 3) + n9) / 24)) - (nI ((σ 2 - dg σ i 3) / 24))) = (nI ((σ 2 - dg σ i 3 + n9) / 24 - (σ 2 - dg σ i 3) / 24)) from (pk_sub (by omega))) ?_
      refine lv_istore (lv' := [(5, .int (nI ((σ 2 - dg σ i 3 + n9) / 24 - (σ 2 - dg σ i 3) / 24))), (4, .int (nI (σ 2 - dg σ i 3))), (0, .ref (a 0)), (1, .int (nI n9)), (2, .int (nI (sm (gro σ n9) i))), (3, .int (nI i))]) hx hb dX0_passHours_55 hl (by decide) rfl (fun ls hl => ?_)
      refine jn_i (pcj := 76) (ls := ls) (st := []) (fun v9 => v9 = (nI (gro σ n9 i))) ?_ (fun jn76 => ?_)
      · intro v9 hv9
        subst hv9
        refine lv_istore (lv' := [(6, .int (nI (gro σ n9 i))), (5, .int (nI ((σ 2 - dg σ i 3 + n9) / 24 - (σ 2 - dg σ i 3) / 24))), (4, .int (nI (σ 2 - dg σ i 3))), (0, .ref (a 0)), (1, .int (nI n9)), (2, .int (nI (sm (gro σ n9) i))), (3, .int (nI i))]) hx hb dX0_passHours_76 hl (by decide) rfl (fun ls hl => ?_)
        refine lv_aload_n hx hb dX0_passHours_78 rfl (lv_at hl 3 rfl) ?_
        refine va_get (D := g) (ci := 0) (v := .ref (a 4)) (C := RX0) (T := TX0) (N := 11) hx hb hts bgX0 hown hK hP 0 rfl rfl 1 (by decide) (hts _ wd2_12) (fun _ h9 => h9) rfl dX0_passHours_79 ?_
        refine lv_iload_n hx hb dX0_passHours_82 rfl (lv_at hl 6 rfl) ?_
        refine lv_iconst (v := (nI 4)) hx hb dX0_passHours_83 (by decide) ?_
        refine lv_aload_n hx hb dX0_passHours_84 rfl (lv_at hl 3 rfl) ?_
        refine va_get (D := g) (ci := 0) (v := .ref (a 4)) (C := RX0) (T := TX0) (N := 11) hx hb hts bgX0 hown hK hP 0 rfl rfl 1 (by decide) (hts _ wd2_12) (fun _ h9 => h9) rfl dX0_passHours_85 ?_
        refine lv_iload_n hx hb dX0_passHours_88 rfl (lv_at hl 6 rfl) ?_
        refine lv_iconst (v := (nI 4)) hx hb dX0_passHours_89 (by decide) ?_
        refine rd_call (va_runV (As := [.int (nI i), .int (nI 4)]) (rest := [.int (nI 4), .int (nI i), .ref (a 4)]) ⟨hx, hb, hml, hown, hts⟩ (c_X3_get l g cy (a 4) (a 5) H.size 6 11 66 ((bs b 2 (hoF σ n9 (b 2) i)) 2) (σ 0) (nI i) 4 (by omega) (by omega) (by omega) (by omega) (by omega) (by omega)) ⟨(cB 2 hts wd13_23 wd2_11 wd13_20 rfl rfl (by decide +kernel) ⟨Nat.le_of_ble_eq_true rfl, Nat.le_of_ble_eq_true rfl⟩), hts _ wd13_21, hts _ wd13_22⟩ (pv hK hP hD hS hA hX [4, 5] rfl rfl 3 4 rfl rfl) rfl rfl hl.1 rfl (lv_room (Nat.le_of_ble_eq_true rfl)) dX0_passHours_90 ⟨Nat.zero_le _, Nat.zero_le _⟩) ?_
        show W _ _ _ _ _ _ _ _ _ _ _ _ _ _ _ (F0 mX 93 ls [.int (getR ((bs b 2 (hoF σ n9 (b 2) i)) 2) 11 (σ 0) (nI i) 4), .int (nI 4), .int (nI i), .ref (a 4)])
        refine ti (show (getR ((bs b 2 (hoF σ n9 (b 2) i)) 2) 11 (σ 0) (nI i) 4) = (nI (dg σ i 4)) from (hoF_g hbr hn0 (show i < σ 0 by omega) (by decide))) ?_
        refine lv_iload hx hb dX0_passHours_93 (lv_at hl 0 rfl) ?_
        refine lv_iadd hx hb dX0_passHours_95 ?_
        refine ti (nI_add (dg σ i 4) (gro σ n9 i)) ?_
        refine wr_call (wc := [(a 4, .inr (3, [.int (nI 6), .int (nI 11), .ref (a 5), .int (nI (σ 0))])), aI cy (a 5) 66 ((bs b 2 (hoF σ n9 (b 2) i)) 2)]) (va_runV (As := [.int (nI i), .int (nI 4), .int (nI ((dg σ i 4) + (gro σ n9 i)))]) (rest := []) ⟨hx, hb, hml, hown, hts⟩ (c_X3_put l g cy (a 4) (a 5) H.size 6 11 66 ((bs b 2 (hoF σ n9 (b 2) i)) 2) (σ 0) (nI i) 4 (nI ((dg σ i 4) + (gro σ n9 i))) (by omega) (by omega) (by omega) (by omega) (by omega) (by omega)) ⟨(cB 3 hts wd9_3 wd2_11 wd9_4 rfl rfl (by decide +kernel) ⟨Nat.le_of_ble_eq_true rfl, Nat.le_of_ble_eq_true rfl⟩), hts _ wd9_1, hts _ wd9_2⟩ (pv hK hP hD hS hA hX [4, 5] rfl rfl 3 4 rfl rfl) rfl rfl hl.1 rfl (lv_room (Nat.le_of_ble_eq_true rfl)) dX0_passHours_96 ⟨Nat.zero_le _, Nat.zero_le _⟩) hP hD hS hA [4, 5] rfl rfl (fun _ => (rfl : ([a 4, a 5] : List Nat) = [a 4, a 5])) ?_
        rintro _u9 H locs - hP hD hS
        have hP : va_P g vwCl [(a 0, .inr (0, [.ref (a 1), .ref (a 4), .ref (a 6), .ref (a 8), .ref (a 9), .int (nI (σ 2)), .int (nI (σ 3)), .int (nI (σ 4)), .int (nI (σ 5)), .int (nI (σ 6)), .int (nI (σ 7))])), (a 1, .inr (2, [.ref (a 2), .ref (a 3), .int (nI (cmk σ))])), aI cy (a 2) 144 (wv σ), aI cy (a 3) 12 ((bs b 2 (hoF σ n9 (b 2) i)) 1), (a 4, .inr (3, [.int (nI 6), .int (nI 11), .ref (a 5), .int (nI (σ 0))])), aI cy (a 5) 66 (putR ((bs b 2 (hoF σ n9 (b 2) i)) 2) 11 (σ 0) (nI i) 4 (nI ((dg σ i 4) + (gro σ n9 i)))), (a 6, .inr (3, [.int (nI 20), .int (nI 6), .ref (a 7), .int (nI (σ 1))])), aI cy (a 7) 120 ((bs b 2 (hoF σ n9 (b 2) i)) 3), aI cy (a 8) 8 (mS (pu σ)), aI cy (a 9) 6 ((bs b 2 (hoF σ n9 (b 2) i)) 5)] H := hP
        have hD : va_D A [(a 0, .inr (0, [.ref (a 1), .ref (a 4), .ref (a 6), .ref (a 8), .ref (a 9), .int (nI (σ 2)), .int (nI (σ 3)), .int (nI (σ 4)), .int (nI (σ 5)), .int (nI (σ 6)), .int (nI (σ 7))])), (a 1, .inr (2, [.ref (a 2), .ref (a 3), .int (nI (cmk σ))])), aI cy (a 2) 144 (wv σ), aI cy (a 3) 12 ((bs b 2 (hoF σ n9 (b 2) i)) 1), (a 4, .inr (3, [.int (nI 6), .int (nI 11), .ref (a 5), .int (nI (σ 0))])), aI cy (a 5) 66 (putR ((bs b 2 (hoF σ n9 (b 2) i)) 2) 11 (σ 0) (nI i) 4 (nI ((dg σ i 4) + (gro σ n9 i)))), (a 6, .inr (3, [.int (nI 20), .int (nI 6), .ref (a 7), .int (nI (σ 1))])), aI cy (a 7) 120 ((bs b 2 (hoF σ n9 (b 2) i)) 3), aI cy (a 8) 8 (mS (pu σ)), aI cy (a 9) 6 ((bs b 2 (hoF σ n9 (b 2) i)) 5)] := hD
        show W _ _ _ _ _ _ _ _ _ _ _ _ _ _ _ (F0 mX 99 ls [])
        rw [putR_n (j := i) (by omega) (by omega)] at hP hD
        have hP : va_P g vwCl [(a 0, .inr (0, [.ref (a 1), .ref (a 4), .ref (a 6), .ref (a 8), .ref (a 9), .int (nI (σ 2)), .int (nI (σ 3)), .int (nI (σ 4)), .int (nI (σ 5)), .int (nI (σ 6)), .int (nI (σ 7))])), (a 1, .inr (2, [.ref (a 2), .ref (a 3), .int (nI (cmk σ))])), aI cy (a 2) 144 (wv σ), aI cy (a 3) 12 ((bs b 2 (hoF σ n9 (b 2) i)) 1), (a 4, .inr (3, [.int (nI 6), .int (nI 11), .ref (a 5), .int (nI (σ 0))])), aI cy (a 5) 66 (upd ((bs b 2 (hoF σ n9 (b 2) i)) 2) (i * 11 + 4) (nI ((dg σ i 4) + (gro σ n9 i)))), (a 6, .inr (3, [.int (nI 20), .int (nI 6), .ref (a 7), .int (nI (σ 1))])), aI cy (a 7) 120 ((bs b 2 (hoF σ n9 (b 2) i)) 3), aI cy (a 8) 8 (mS (pu σ)), aI cy (a 9) 6 ((bs b 2 (hoF σ n9 (b 2) i)) 5)] H := hP
        have hD : va_D A [(a 0, .inr (0, [.ref (a 1), .ref (a 4), .ref (a 6), .ref (a 8), .ref (a 9), .int (nI (σ 2)), .int (nI (σ 3)), .int (nI (σ 4)), .int (nI (σ 5)), .int (nI (σ 6)), .int (nI (σ 7))])), (a 1, .inr (2, [.ref (a 2), .ref (a 3), .int (nI (cmk σ))])), aI cy (a 2) 144 (wv σ), aI cy (a 3) 12 ((bs b 2 (hoF σ n9 (b 2) i)) 1), (a 4, .inr (3, [.int (nI 6), .int (nI 11), .ref (a 5), .int (nI (σ 0))])), aI cy (a 5) 66 (upd ((bs b 2 (hoF σ n9 (b 2) i)) 2) (i * 11 + 4) (nI ((dg σ i 4) + (gro σ n9 i)))), (a 6, .inr (3, [.int (nI 20), .int (nI 6), .ref (a 7), .int (nI (σ 1))])), aI cy (a 7) 120 ((bs b 2 (hoF σ n9 (b 2) i)) 3), aI cy (a 8) 8 (mS (pu σ)), aI cy (a 9) 6 ((bs b 2 (hoF σ n9 (b 2) i)) 5)] := hD
        rw [show (upd ((bs b 2 (hoF σ n9 (b 2) i)) 2) (i * 11 + 4) (nI ((dg σ i 4) + (gro σ n9 i)))) = ((bs b 2 (hoF σ n9 (b 2) (i + 1))) 2) from hoF_s] at hP hD
        refine lv_iload_n hx hb dX0_passHours_99 rfl (lv_at hl 5 rfl) ?_
        refine lv_iload hx hb dX0_passHours_100 (lv_at hl 0 rfl) ?_
        refine lv_iadd hx hb dX0_passHours_102 ?_
        refine ti (nI_add (sm (gro σ n9) i) (gro σ n9 i)) ?_
        refine lv_istore_n (lv' := [(2, .int (nI ((sm (gro σ n9) i) + (gro σ n9 i)))), (6, .int (nI (gro σ n9 i))), (5, .int (nI ((σ 2 - dg σ i 3 + n9) / 24 - (σ 2 - dg σ i 3) / 24))), (4, .int (nI (σ 2 - dg σ i 3))), (0, .ref (a 0)), (1, .int (nI n9)), (3, .int (nI i))]) hx hb dX0_passHours_103 rfl hl (by decide) rfl (fun ls hl => ?_)
        have hl : lv_has ls 7 [(2, .int (nI (sm (gro σ n9) (i + 1)))), (6, .int (nI (gro σ n9 i))), (5, .int (nI ((σ 2 - dg σ i 3 + n9) / 24 - (σ 2 - dg σ i 3) / 24))), (4, .int (nI (σ 2 - dg σ i 3))), (0, .ref (a 0)), (1, .int (nI n9)), (3, .int (nI i))] := by rw [← show (nI ((sm (gro σ n9) i) + (gro σ n9 i))) = (nI (sm (gro σ n9) (i + 1))) from rfl]; exact hl
        refine lv_iinc (v := (nI (i + 1))) (lv' := [(3, .int (nI (i + 1))), (2, .int (nI (sm (gro σ n9) (i + 1)))), (6, .int (nI (gro σ n9 i))), (5, .int (nI ((σ 2 - dg σ i 3 + n9) / 24 - (σ 2 - dg σ i 3) / 24))), (4, .int (nI (σ 2 - dg σ i 3))), (0, .ref (a 0)), (1, .int (nI n9))]) hx hb dX0_passHours_104 hl (k := 6) rfl (nI_add i 1) (by decide) rfl (fun ls hl => ?_)
        refine lv_goto (tgt := 15) hx hb dX0_passHours_107 (by decide) ?_
        exact ih15 (i + 1) H locs ls ⟨hP, hD, hS, lv_sub hl [5, 6, 1, 0] rfl, (by omega)⟩ (by first | omega | (dsimp only; omega))
      · skip
        refine lv_aload_n hx hb dX0_passHours_57 rfl (lv_at hl 2 rfl) ?_
        refine lv_iload_n hx hb dX0_passHours_58 rfl (lv_at hl 5 rfl) ?_
        refine rd_call (va_runV (As := [.int (nI i)]) (rest := []) ⟨hx, hb, hml, hown, hts⟩ (c_X0_isMissing2 l g cy  H.size a σ (bs b 2 (hoF σ n9 (b 2) i)) bd i (msg σ i) (by omega) (hoF_m hbr hn0 (show i < σ 0 by omega))) ⟨(cB 1 hts wd13_19 wd1_12 wd13_16 rfl rfl (by decide +kernel) ⟨Nat.le_of_ble_eq_true rfl, Nat.le_of_ble_eq_true rfl⟩), hts _ wd13_17, hts _ wd13_18⟩ (pv hK hP hD hS hA hX [0, 1, 2, 3, 4, 5, 6, 7, 8, 9] rfl rfl 0 0 rfl rfl) rfl rfl hl.1 rfl (lv_room (Nat.le_of_ble_eq_true rfl)) dX0_passHours_59 ⟨Nat.zero_le _, Nat.zero_le _⟩) ?_
        show W _ _ _ _ _ _ _ _ _ _ _ _ _ _ _ (F0 mX 62 ls [.int (bI (msg σ i))])
        refine lv_if_eq (tgt := 75) hx hb dX0_passHours_62 (by decide) (fun c_62 => ?_) (fun c_62 => ?_)
        · have c_62 := (bI_eq0.mp c_62)
          refine lv_iconst (v := (nI 0)) hx hb dX0_passHours_75 (by decide) ?_
          exact jn76 _ (congrArg nI (by simp [gro, c_62]))
        · have c_62 := (bI_ne0.mp c_62)
          refine lv_iload hx hb dX0_passHours_65 (lv_at hl 0 rfl) ?_
          refine lv_aload_n hx hb dX0_passHours_67 rfl (lv_at hl 2 rfl) ?_
          refine va_get (D := g) (ci := 0) (v := .int (nI (σ 6))) (C := RX0) (T := TX0) (N := 11) hx hb hts bgX0 hown hK hP 0 rfl rfl 9 (by decide) (hts _ wd4_4) (fun _ h9 => h9) rfl dX0_passHours_68 ?_
          refine lv_imul hx hb dX0_passHours_71 ?_
          refine ti (pk_mul ((σ 2 - dg σ i 3 + n9) / 24 - (σ 2 - dg σ i 3) / 24) (σ 6)) ?_
          refine lv_goto (tgt := 76) hx hb dX0_passHours_72 (by decide) ?_
          exact jn76 _ (congrArg nI (by simp [gro, c_62]))
  · have c_5 := (nz_ne c_5 (by omega))
    refine lv_bipush (v := (nI NN2)) hx hb dX0_passHours_8 (by decide) ?_
    exact wr_i b (by rw [show hoursA σ vn = NN2 from if_neg c_5]) (by rw [show hoursR σ vn = σ from if_neg c_5]; exact hbr) (by rw [show hoursR σ vn = σ from if_neg c_5]; exact hP) hS hx hb hr dX0_passHours_10 hlk
set_option maxHeartbeats 4000000 in
set_option maxRecDepth 100000 in
theorem c_X0_makeNew (l : Launch) (g : va_G) (cy : Nat → ClassId) (sz : Nat) (a : Nat → Nat) (v : Nat → Nat) (cl : Nat) (Wv : Nat → Int32) (sw : Nat → Int32) (cd : Nat → Int32) (cs : Nat → Int32) (Pv : Nat → Int32) (pl : Nat → Int32) : Met l yX0_makeNew (Cond.code yX0_makeNew cX0_makeNew 1 none :: wsL_law) ({ frames := 4, cells := 0, slots := 0, locals := 90 } : Room) (va_Pc [.ref (a 0)] (pr g cy [(a 0, .inr (0, [.ref (a 1), .ref (a 4), .ref (a 6), .ref (a 8), .ref (a 9), .int (nI (v 2)), .int (nI (v 3)), .int (nI (v 4)), .int (nI (v 5)), .int (nI (v 6)), .int (nI (v 7))])), (a 1, .inr (2, [.ref (a 2), .ref (a 3), .int (nI cl)])), aI cy (a 2) 144 Wv, aI cy (a 3) 12 sw, (a 4, .inr (3, [.int (nI 6), .int (nI 11), .ref (a 5), .int (nI (v 0))])), aI cy (a 5) 66 cd, (a 6, .inr (3, [.int (nI 20), .int (nI 6), .ref (a 7), .int (nI (v 1))])), aI cy (a 7) 120 cs, aI cy (a 8) 8 Pv, aI cy (a 9) 6 pl] sz)) (wr_Q (fun b1 : Nat → Nat → Int32 => none) (fun b1 : Nat → Nat → Int32 => True) (fun b1 : Nat → Nat → Int32 => [(a 0, .inr (0, [.ref (a 1), .ref (a 4), .ref (a 6), .ref (a 8), .ref (a 9), .int (nI (newS 2)), .int (nI (newS 3)), .int (nI (newS 4)), .int (nI (newS 5)), .int (nI (newS 6)), .int (nI (newS 7))])), (a 1, .inr (2, [.ref (a 2), .ref (a 3), .int (nI (cmk newS))])), aI cy (a 2) 144 (wv newS), aI cy (a 3) 12 (b1 1), (a 4, .inr (3, [.int (nI 6), .int (nI 11), .ref (a 5), .int (nI (newS 0))])), aI cy (a 5) 66 (b1 2), (a 6, .inr (3, [.int (nI 20), .int (nI 6), .ref (a 7), .int (nI (newS 1))])), aI cy (a 7) 120 (b1 3), aI cy (a 8) 8 (mS (pu newS)), aI cy (a 9) 6 (b1 5)]) g (va_A [(a 0, .inr (0, [.ref (a 1), .ref (a 4), .ref (a 6), .ref (a 8), .ref (a 9), .int (nI (v 2)), .int (nI (v 3)), .int (nI (v 4)), .int (nI (v 5)), .int (nI (v 6)), .int (nI (v 7))])), (a 1, .inr (2, [.ref (a 2), .ref (a 3), .int (nI cl)])), aI cy (a 2) 144 Wv, aI cy (a 3) 12 sw, (a 4, .inr (3, [.int (nI 6), .int (nI 11), .ref (a 5), .int (nI (v 0))])), aI cy (a 5) 66 cd, (a 6, .inr (3, [.int (nI 20), .int (nI 6), .ref (a 7), .int (nI (v 1))])), aI cy (a 7) 120 cs, aI cy (a 8) 8 Pv, aI cy (a 9) 6 pl] sz)) 0 0 (va_A [(a 0, .inr (0, [.ref (a 1), .ref (a 4), .ref (a 6), .ref (a 8), .ref (a 9), .int (nI (v 2)), .int (nI (v 3)), .int (nI (v 4)), .int (nI (v 5)), .int (nI (v 6)), .int (nI (v 7))])), (a 1, .inr (2, [.ref (a 2), .ref (a 3), .int (nI cl)])), aI cy (a 2) 144 Wv, aI cy (a 3) 12 sw, (a 4, .inr (3, [.int (nI 6), .int (nI 11), .ref (a 5), .int (nI (v 0))])), aI cy (a 5) 66 cd, (a 6, .inr (3, [.int (nI 20), .int (nI 6), .ref (a 7), .int (nI (v 1))])), aI cy (a 7) 120 cs, aI cy (a 8) 8 Pv, aI cy (a 9) 6 pl] sz) := by
  refine mt_of (cc := cX0_makeNew) (maxL := 1) (ret := none) (by decide +kernel) (Nat.le_of_ble_eq_true rfl) ?_
  intro pX eX s mX below meth cX ls A hx hb hr hml hown hts hlk hin hsz hAe hA hP hD hK hX hl
  subst hsz
  rw [← hAe]
  clear hAe
  have hl : lv_has ls 1 [(0, .ref (a 0))] := hl
  have hS : va_S A s.heap s.heap [] := va_S.rf
  refine lv_aload_n hx hb dX0_makeNew_0 rfl (lv_at hl 0 rfl) ?_
  refine va_get (D := g) (ci := 0) (v := .ref (a 1)) (C := RX0) (T := TX0) (N := 11) hx hb hts bgX0 hown hK hP 0 rfl rfl 0 (by decide) (hts _ wd2_8) (fun _ h9 => h9) rfl dX0_makeNew_1 ?_
  refine wr_call (wc := [(a 1, .inr (2, [.ref (a 2), .ref (a 3), .int (nI cl)])), aI cy (a 2) 144 Wv, aI cy (a 3) 12 sw]) (va_runV (As := []) (rest := []) ⟨hx, hb, hml, hown, hts⟩ (c_X2_openAll l g cy (a 1) (a 2) (a 3) s.heap.size newS Wv sw cl RC_newS) ⟨(cB 0 hts wd4_9 wd2_7 wd4_6 rfl rfl (by decide +kernel) ⟨Nat.le_of_ble_eq_true rfl, Nat.le_of_ble_eq_true rfl⟩), hts _ wd4_7, hts _ wd4_8⟩ (pv hK hP hD hS hA hX [1, 2, 3] rfl rfl 2 1 rfl rfl) rfl rfl hl.1 rfl (lv_room (Nat.le_of_ble_eq_true rfl)) dX0_makeNew_4 ⟨Nat.zero_le _, Nat.zero_le _⟩) hP hD hS hA [1, 2, 3] rfl rfl (fun _ => (rfl : ([a 1, a 2, a 3] : List Nat) = [a 1, a 2, a 3])) ?_
  rintro W1_4 H locs hW1_4 hP hD hS
  have hP : va_P g vwCl [(a 0, .inr (0, [.ref (a 1), .ref (a 4), .ref (a 6), .ref (a 8), .ref (a 9), .int (nI (v 2)), .int (nI (v 3)), .int (nI (v 4)), .int (nI (v 5)), .int (nI (v 6)), .int (nI (v 7))])), (a 1, .inr (2, [.ref (a 2), .ref (a 3), .int (nI 0)])), aI cy (a 2) 144 W1_4, aI cy (a 3) 12 sw, (a 4, .inr (3, [.int (nI 6), .int (nI 11), .ref (a 5), .int (nI (v 0))])), aI cy (a 5) 66 cd, (a 6, .inr (3, [.int (nI 20), .int (nI 6), .ref (a 7), .int (nI (v 1))])), aI cy (a 7) 120 cs, aI cy (a 8) 8 Pv, aI cy (a 9) 6 pl] H := hP
  have hD : va_D A [(a 0, .inr (0, [.ref (a 1), .ref (a 4), .ref (a 6), .ref (a 8), .ref (a 9), .int (nI (v 2)), .int (nI (v 3)), .int (nI (v 4)), .int (nI (v 5)), .int (nI (v 6)), .int (nI (v 7))])), (a 1, .inr (2, [.ref (a 2), .ref (a 3), .int (nI 0)])), aI cy (a 2) 144 W1_4, aI cy (a 3) 12 sw, (a 4, .inr (3, [.int (nI 6), .int (nI 11), .ref (a 5), .int (nI (v 0))])), aI cy (a 5) 66 cd, (a 6, .inr (3, [.int (nI 20), .int (nI 6), .ref (a 7), .int (nI (v 1))])), aI cy (a 7) 120 cs, aI cy (a 8) 8 Pv, aI cy (a 9) 6 pl] := hD
  have hW1_4 : ∀ i9, i9 < 144 → W1_4 i9 = wv newS i9 := hW1_4
  show W _ _ _ _ _ _ _ _ _ _ _ _ _ _ _ (F0 mX 7 ls [])
  obtain ⟨hP, hD⟩ := arr_c (wv newS) hP hD 2 rfl hW1_4
  have hP : va_P g vwCl [(a 0, .inr (0, [.ref (a 1), .ref (a 4), .ref (a 6), .ref (a 8), .ref (a 9), .int (nI (v 2)), .int (nI (v 3)), .int (nI (v 4)), .int (nI (v 5)), .int (nI (v 6)), .int (nI (v 7))])), (a 1, .inr (2, [.ref (a 2), .ref (a 3), .int (nI 0)])), aI cy (a 2) 144 (wv newS), aI cy (a 3) 12 sw, (a 4, .inr (3, [.int (nI 6), .int (nI 11), .ref (a 5), .int (nI (v 0))])), aI cy (a 5) 66 cd, (a 6, .inr (3, [.int (nI 20), .int (nI 6), .ref (a 7), .int (nI (v 1))])), aI cy (a 7) 120 cs, aI cy (a 8) 8 Pv, aI cy (a 9) 6 pl] H := hP
  have hD : va_D A [(a 0, .inr (0, [.ref (a 1), .ref (a 4), .ref (a 6), .ref (a 8), .ref (a 9), .int (nI (v 2)), .int (nI (v 3)), .int (nI (v 4)), .int (nI (v 5)), .int (nI (v 6)), .int (nI (v 7))])), (a 1, .inr (2, [.ref (a 2), .ref (a 3), .int (nI 0)])), aI cy (a 2) 144 (wv newS), aI cy (a 3) 12 sw, (a 4, .inr (3, [.int (nI 6), .int (nI 11), .ref (a 5), .int (nI (v 0))])), aI cy (a 5) 66 cd, (a 6, .inr (3, [.int (nI 20), .int (nI 6), .ref (a 7), .int (nI (v 1))])), aI cy (a 7) 120 cs, aI cy (a 8) 8 Pv, aI cy (a 9) 6 pl] := hD
  refine lv_aload_n hx hb dX0_makeNew_7 rfl (lv_at hl 0 rfl) ?_
  refine va_get (D := g) (ci := 0) (v := .ref (a 4)) (C := RX0) (T := TX0) (N := 11) hx hb hts bgX0 hown hK hP 0 rfl rfl 1 (by decide) (hts _ wd2_12) (fun _ h9 => h9) rfl dX0_makeNew_8 ?_
  refine wr_call (wc := [(a 4, .inr (3, [.int (nI 6), .int (nI 11), .ref (a 5), .int (nI (v 0))])), aI cy (a 5) 66 cd]) (va_runV (As := []) (rest := []) ⟨hx, hb, hml, hown, hts⟩ (c_X3_empty l g cy (a 4) (a 5) H.size 6 11 66 cd (v 0) ) ⟨(cB 0 hts wd5_9 wd2_11 wd5_6 rfl rfl (by decide +kernel) ⟨Nat.le_of_ble_eq_true rfl, Nat.le_of_ble_eq_true rfl⟩), hts _ wd5_7, hts _ wd5_8⟩ (pv hK hP hD hS hA hX [4, 5] rfl rfl 3 4 rfl rfl) rfl rfl hl.1 rfl (lv_room (Nat.le_of_ble_eq_true rfl)) dX0_makeNew_11 ⟨Nat.zero_le _, Nat.zero_le _⟩) hP hD hS hA [4, 5] rfl rfl (fun _ => (rfl : ([a 4, a 5] : List Nat) = [a 4, a 5])) ?_
  rintro _u9 H locs - hP hD hS
  have hP : va_P g vwCl [(a 0, .inr (0, [.ref (a 1), .ref (a 4), .ref (a 6), .ref (a 8), .ref (a 9), .int (nI (v 2)), .int (nI (v 3)), .int (nI (v 4)), .int (nI (v 5)), .int (nI (v 6)), .int (nI (v 7))])), (a 1, .inr (2, [.ref (a 2), .ref (a 3), .int (nI 0)])), aI cy (a 2) 144 (wv newS), aI cy (a 3) 12 sw, (a 4, .inr (3, [.int (nI 6), .int (nI 11), .ref (a 5), .int (nI 0)])), aI cy (a 5) 66 cd, (a 6, .inr (3, [.int (nI 20), .int (nI 6), .ref (a 7), .int (nI (v 1))])), aI cy (a 7) 120 cs, aI cy (a 8) 8 Pv, aI cy (a 9) 6 pl] H := hP
  have hD : va_D A [(a 0, .inr (0, [.ref (a 1), .ref (a 4), .ref (a 6), .ref (a 8), .ref (a 9), .int (nI (v 2)), .int (nI (v 3)), .int (nI (v 4)), .int (nI (v 5)), .int (nI (v 6)), .int (nI (v 7))])), (a 1, .inr (2, [.ref (a 2), .ref (a 3), .int (nI 0)])), aI cy (a 2) 144 (wv newS), aI cy (a 3) 12 sw, (a 4, .inr (3, [.int (nI 6), .int (nI 11), .ref (a 5), .int (nI 0)])), aI cy (a 5) 66 cd, (a 6, .inr (3, [.int (nI 20), .int (nI 6), .ref (a 7), .int (nI (v 1))])), aI cy (a 7) 120 cs, aI cy (a 8) 8 Pv, aI cy (a 9) 6 pl] := hD
  show W _ _ _ _ _ _ _ _ _ _ _ _ _ _ _ (F0 mX 14 ls [])
  refine lv_aload_n hx hb dX0_makeNew_14 rfl (lv_at hl 0 rfl) ?_
  refine va_get (D := g) (ci := 0) (v := .ref (a 6)) (C := RX0) (T := TX0) (N := 11) hx hb hts bgX0 hown hK hP 0 rfl rfl 2 (by decide) (hts _ wd2_13) (fun _ h9 => h9) rfl dX0_makeNew_15 ?_
  refine wr_call (wc := [(a 6, .inr (3, [.int (nI 20), .int (nI 6), .ref (a 7), .int (nI (v 1))])), aI cy (a 7) 120 cs]) (va_runV (As := []) (rest := []) ⟨hx, hb, hml, hown, hts⟩ (c_X3_empty l g cy (a 6) (a 7) H.size 20 6 120 cs (v 1) ) ⟨(cB 0 hts wd5_9 wd2_11 wd5_6 rfl rfl (by decide +kernel) ⟨Nat.le_of_ble_eq_true rfl, Nat.le_of_ble_eq_true rfl⟩), hts _ wd5_7, hts _ wd5_8⟩ (pv hK hP hD hS hA hX [6, 7] rfl rfl 3 6 rfl rfl) rfl rfl hl.1 rfl (lv_room (Nat.le_of_ble_eq_true rfl)) dX0_makeNew_18 ⟨Nat.zero_le _, Nat.zero_le _⟩) hP hD hS hA [6, 7] rfl rfl (fun _ => (rfl : ([a 6, a 7] : List Nat) = [a 6, a 7])) ?_
  rintro _u9 H locs - hP hD hS
  have hP : va_P g vwCl [(a 0, .inr (0, [.ref (a 1), .ref (a 4), .ref (a 6), .ref (a 8), .ref (a 9), .int (nI (v 2)), .int (nI (v 3)), .int (nI (v 4)), .int (nI (v 5)), .int (nI (v 6)), .int (nI (v 7))])), (a 1, .inr (2, [.ref (a 2), .ref (a 3), .int (nI 0)])), aI cy (a 2) 144 (wv newS), aI cy (a 3) 12 sw, (a 4, .inr (3, [.int (nI 6), .int (nI 11), .ref (a 5), .int (nI 0)])), aI cy (a 5) 66 cd, (a 6, .inr (3, [.int (nI 20), .int (nI 6), .ref (a 7), .int (nI 0)])), aI cy (a 7) 120 cs, aI cy (a 8) 8 Pv, aI cy (a 9) 6 pl] H := hP
  have hD : va_D A [(a 0, .inr (0, [.ref (a 1), .ref (a 4), .ref (a 6), .ref (a 8), .ref (a 9), .int (nI (v 2)), .int (nI (v 3)), .int (nI (v 4)), .int (nI (v 5)), .int (nI (v 6)), .int (nI (v 7))])), (a 1, .inr (2, [.ref (a 2), .ref (a 3), .int (nI 0)])), aI cy (a 2) 144 (wv newS), aI cy (a 3) 12 sw, (a 4, .inr (3, [.int (nI 6), .int (nI 11), .ref (a 5), .int (nI 0)])), aI cy (a 5) 66 cd, (a 6, .inr (3, [.int (nI 20), .int (nI 6), .ref (a 7), .int (nI 0)])), aI cy (a 7) 120 cs, aI cy (a 8) 8 Pv, aI cy (a 9) 6 pl] := hD
  show W _ _ _ _ _ _ _ _ _ _ _ _ _ _ _ (F0 mX 21 ls [])
  refine lv_aload_n hx hb dX0_makeNew_21 rfl (lv_at hl 0 rfl) ?_
  refine va_get (D := g) (ci := 0) (v := .ref (a 8)) (C := RX0) (T := TX0) (N := 11) hx hb hts bgX0 hown hK hP 0 rfl rfl 3 (by decide) (hts _ wd2_15) (fun _ h9 => h9) rfl dX0_makeNew_22 ?_
  refine lv_iconst (v := (nI 0)) hx hb dX0_makeNew_25 (by decide) ?_
  refine wr_call (wc := [aI cy (a 8) 8 Pv]) (va_runS (As := [.ref (a 8), .int (nI 0)]) (rest := []) ⟨hx, hb, hml, hown, hts⟩ (c_J7_fill_53178 l g cy (a 8) H.size 8 Pv (nI 0) (by omega)) ⟨(cB 2 hts wd4_18 wd4_17 wd5_11 rfl rfl (by decide +kernel) ⟨Nat.le_of_ble_eq_true rfl, Nat.le_of_ble_eq_true rfl⟩), hts _ wd4_16⟩ (ps hK hP hD hS hA hX [8] rfl rfl) rfl rfl hl.1 rfl (lv_room (Nat.le_of_ble_eq_true rfl)) dX0_makeNew_26 ⟨Nat.zero_le _, Nat.zero_le _⟩) hP hD hS hA [8] rfl rfl (fun _ => (rfl : ([a 8] : List Nat) = [a 8])) ?_
  rintro _u9 H locs - hP hD hS
  have hP : va_P g vwCl [(a 0, .inr (0, [.ref (a 1), .ref (a 4), .ref (a 6), .ref (a 8), .ref (a 9), .int (nI (v 2)), .int (nI (v 3)), .int (nI (v 4)), .int (nI (v 5)), .int (nI (v 6)), .int (nI (v 7))])), (a 1, .inr (2, [.ref (a 2), .ref (a 3), .int (nI 0)])), aI cy (a 2) 144 (wv newS), aI cy (a 3) 12 sw, (a 4, .inr (3, [.int (nI 6), .int (nI 11), .ref (a 5), .int (nI 0)])), aI cy (a 5) 66 cd, (a 6, .inr (3, [.int (nI 20), .int (nI 6), .ref (a 7), .int (nI 0)])), aI cy (a 7) 120 cs, aI cy (a 8) 8 (fun _ => (nI 0)), aI cy (a 9) 6 pl] H := hP
  have hD : va_D A [(a 0, .inr (0, [.ref (a 1), .ref (a 4), .ref (a 6), .ref (a 8), .ref (a 9), .int (nI (v 2)), .int (nI (v 3)), .int (nI (v 4)), .int (nI (v 5)), .int (nI (v 6)), .int (nI (v 7))])), (a 1, .inr (2, [.ref (a 2), .ref (a 3), .int (nI 0)])), aI cy (a 2) 144 (wv newS), aI cy (a 3) 12 sw, (a 4, .inr (3, [.int (nI 6), .int (nI 11), .ref (a 5), .int (nI 0)])), aI cy (a 5) 66 cd, (a 6, .inr (3, [.int (nI 20), .int (nI 6), .ref (a 7), .int (nI 0)])), aI cy (a 7) 120 cs, aI cy (a 8) 8 (fun _ => (nI 0)), aI cy (a 9) 6 pl] := hD
  show W _ _ _ _ _ _ _ _ _ _ _ _ _ _ _ (F0 mX 29 ls [])
  obtain ⟨hP, hD⟩ := arr_c (mS (pu newS)) hP hD 8 rfl (fun j hj => by show nI 0 = nI (newS (8 + j)); rw [newS_hi (by omega)])
  have hP : va_P g vwCl [(a 0, .inr (0, [.ref (a 1), .ref (a 4), .ref (a 6), .ref (a 8), .ref (a 9), .int (nI (v 2)), .int (nI (v 3)), .int (nI (v 4)), .int (nI (v 5)), .int (nI (v 6)), .int (nI (v 7))])), (a 1, .inr (2, [.ref (a 2), .ref (a 3), .int (nI 0)])), aI cy (a 2) 144 (wv newS), aI cy (a 3) 12 sw, (a 4, .inr (3, [.int (nI 6), .int (nI 11), .ref (a 5), .int (nI 0)])), aI cy (a 5) 66 cd, (a 6, .inr (3, [.int (nI 20), .int (nI 6), .ref (a 7), .int (nI 0)])), aI cy (a 7) 120 cs, aI cy (a 8) 8 (mS (pu newS)), aI cy (a 9) 6 pl] H := hP
  have hD : va_D A [(a 0, .inr (0, [.ref (a 1), .ref (a 4), .ref (a 6), .ref (a 8), .ref (a 9), .int (nI (v 2)), .int (nI (v 3)), .int (nI (v 4)), .int (nI (v 5)), .int (nI (v 6)), .int (nI (v 7))])), (a 1, .inr (2, [.ref (a 2), .ref (a 3), .int (nI 0)])), aI cy (a 2) 144 (wv newS), aI cy (a 3) 12 sw, (a 4, .inr (3, [.int (nI 6), .int (nI 11), .ref (a 5), .int (nI 0)])), aI cy (a 5) 66 cd, (a 6, .inr (3, [.int (nI 20), .int (nI 6), .ref (a 7), .int (nI 0)])), aI cy (a 7) 120 cs, aI cy (a 8) 8 (mS (pu newS)), aI cy (a 9) 6 pl] := hD
  refine lv_aload_n hx hb dX0_makeNew_29 rfl (lv_at hl 0 rfl) ?_
  refine lv_iconst (v := (nI 0)) hx hb dX0_makeNew_30 (by decide) ?_
  refine va_put (D := g) (ci := 0) (v := .int (nI 0)) (ty := .int) (C := RX0) (T := TX0) (N := 11) hx hb hts bgX0 tyX0 tyX0_ok nmX0 hown hK hP hD hS 0 rfl rfl 5 (by decide) (hts _ wd4_0) (fun _ h9 => h9) rfl (by decide +kernel) rfl rfl (Nat.le_of_ble_eq_true rfl) dX0_makeNew_31 (fun H locs hP hD hS => ?_)
  have hP : va_P g vwCl [(a 0, .inr (0, [.ref (a 1), .ref (a 4), .ref (a 6), .ref (a 8), .ref (a 9), .int (nI 0), .int (nI (v 3)), .int (nI (v 4)), .int (nI (v 5)), .int (nI (v 6)), .int (nI (v 7))])), (a 1, .inr (2, [.ref (a 2), .ref (a 3), .int (nI 0)])), aI cy (a 2) 144 (wv newS), aI cy (a 3) 12 sw, (a 4, .inr (3, [.int (nI 6), .int (nI 11), .ref (a 5), .int (nI 0)])), aI cy (a 5) 66 cd, (a 6, .inr (3, [.int (nI 20), .int (nI 6), .ref (a 7), .int (nI 0)])), aI cy (a 7) 120 cs, aI cy (a 8) 8 (mS (pu newS)), aI cy (a 9) 6 pl] H := hP
  have hD : va_D A [(a 0, .inr (0, [.ref (a 1), .ref (a 4), .ref (a 6), .ref (a 8), .ref (a 9), .int (nI 0), .int (nI (v 3)), .int (nI (v 4)), .int (nI (v 5)), .int (nI (v 6)), .int (nI (v 7))])), (a 1, .inr (2, [.ref (a 2), .ref (a 3), .int (nI 0)])), aI cy (a 2) 144 (wv newS), aI cy (a 3) 12 sw, (a 4, .inr (3, [.int (nI 6), .int (nI 11), .ref (a 5), .int (nI 0)])), aI cy (a 5) 66 cd, (a 6, .inr (3, [.int (nI 20), .int (nI 6), .ref (a 7), .int (nI 0)])), aI cy (a 7) 120 cs, aI cy (a 8) 8 (mS (pu newS)), aI cy (a 9) 6 pl] := hD
  refine lv_aload_n hx hb dX0_makeNew_34 rfl (lv_at hl 0 rfl) ?_
  refine lv_iconst (v := (nI 0)) hx hb dX0_makeNew_35 (by decide) ?_
  refine va_put (D := g) (ci := 0) (v := .int (nI 0)) (ty := .int) (C := RX0) (T := TX0) (N := 11) hx hb hts bgX0 tyX0 tyX0_ok nmX0 hown hK hP hD hS 0 rfl rfl 6 (by decide) (hts _ wd4_1) (fun _ h9 => h9) rfl (by decide +kernel) rfl rfl (Nat.le_of_ble_eq_true rfl) dX0_makeNew_36 (fun H locs hP hD hS => ?_)
  have hP : va_P g vwCl [(a 0, .inr (0, [.ref (a 1), .ref (a 4), .ref (a 6), .ref (a 8), .ref (a 9), .int (nI 0), .int (nI 0), .int (nI (v 4)), .int (nI (v 5)), .int (nI (v 6)), .int (nI (v 7))])), (a 1, .inr (2, [.ref (a 2), .ref (a 3), .int (nI 0)])), aI cy (a 2) 144 (wv newS), aI cy (a 3) 12 sw, (a 4, .inr (3, [.int (nI 6), .int (nI 11), .ref (a 5), .int (nI 0)])), aI cy (a 5) 66 cd, (a 6, .inr (3, [.int (nI 20), .int (nI 6), .ref (a 7), .int (nI 0)])), aI cy (a 7) 120 cs, aI cy (a 8) 8 (mS (pu newS)), aI cy (a 9) 6 pl] H := hP
  have hD : va_D A [(a 0, .inr (0, [.ref (a 1), .ref (a 4), .ref (a 6), .ref (a 8), .ref (a 9), .int (nI 0), .int (nI 0), .int (nI (v 4)), .int (nI (v 5)), .int (nI (v 6)), .int (nI (v 7))])), (a 1, .inr (2, [.ref (a 2), .ref (a 3), .int (nI 0)])), aI cy (a 2) 144 (wv newS), aI cy (a 3) 12 sw, (a 4, .inr (3, [.int (nI 6), .int (nI 11), .ref (a 5), .int (nI 0)])), aI cy (a 5) 66 cd, (a 6, .inr (3, [.int (nI 20), .int (nI 6), .ref (a 7), .int (nI 0)])), aI cy (a 7) 120 cs, aI cy (a 8) 8 (mS (pu newS)), aI cy (a 9) 6 pl] := hD
  refine lv_aload_n hx hb dX0_makeNew_39 rfl (lv_at hl 0 rfl) ?_
  refine lv_iconst (v := (nI 0)) hx hb dX0_makeNew_40 (by decide) ?_
  refine va_put (D := g) (ci := 0) (v := .int (nI 0)) (ty := .int) (C := RX0) (T := TX0) (N := 11) hx hb hts bgX0 tyX0 tyX0_ok nmX0 hown hK hP hD hS 0 rfl rfl 7 (by decide) (hts _ wd4_2) (fun _ h9 => h9) rfl (by decide +kernel) rfl rfl (Nat.le_of_ble_eq_true rfl) dX0_makeNew_41 (fun H locs hP hD hS => ?_)
  have hP : va_P g vwCl [(a 0, .inr (0, [.ref (a 1), .ref (a 4), .ref (a 6), .ref (a 8), .ref (a 9), .int (nI 0), .int (nI 0), .int (nI 0), .int (nI (v 5)), .int (nI (v 6)), .int (nI (v 7))])), (a 1, .inr (2, [.ref (a 2), .ref (a 3), .int (nI 0)])), aI cy (a 2) 144 (wv newS), aI cy (a 3) 12 sw, (a 4, .inr (3, [.int (nI 6), .int (nI 11), .ref (a 5), .int (nI 0)])), aI cy (a 5) 66 cd, (a 6, .inr (3, [.int (nI 20), .int (nI 6), .ref (a 7), .int (nI 0)])), aI cy (a 7) 120 cs, aI cy (a 8) 8 (mS (pu newS)), aI cy (a 9) 6 pl] H := hP
  have hD : va_D A [(a 0, .inr (0, [.ref (a 1), .ref (a 4), .ref (a 6), .ref (a 8), .ref (a 9), .int (nI 0), .int (nI 0), .int (nI 0), .int (nI (v 5)), .int (nI (v 6)), .int (nI (v 7))])), (a 1, .inr (2, [.ref (a 2), .ref (a 3), .int (nI 0)])), aI cy (a 2) 144 (wv newS), aI cy (a 3) 12 sw, (a 4, .inr (3, [.int (nI 6), .int (nI 11), .ref (a 5), .int (nI 0)])), aI cy (a 5) 66 cd, (a 6, .inr (3, [.int (nI 20), .int (nI 6), .ref (a 7), .int (nI 0)])), aI cy (a 7) 120 cs, aI cy (a 8) 8 (mS (pu newS)), aI cy (a 9) 6 pl] := hD
  refine lv_aload_n hx hb dX0_makeNew_44 rfl (lv_at hl 0 rfl) ?_
  refine lv_iconst (v := (nI 0)) hx hb dX0_makeNew_45 (by decide) ?_
  refine va_put (D := g) (ci := 0) (v := .int (nI 0)) (ty := .int) (C := RX0) (T := TX0) (N := 11) hx hb hts bgX0 tyX0 tyX0_ok nmX0 hown hK hP hD hS 0 rfl rfl 8 (by decide) (hts _ wd4_3) (fun _ h9 => h9) rfl (by decide +kernel) rfl rfl (Nat.le_of_ble_eq_true rfl) dX0_makeNew_46 (fun H locs hP hD hS => ?_)
  have hP : va_P g vwCl [(a 0, .inr (0, [.ref (a 1), .ref (a 4), .ref (a 6), .ref (a 8), .ref (a 9), .int (nI 0), .int (nI 0), .int (nI 0), .int (nI 0), .int (nI (v 6)), .int (nI (v 7))])), (a 1, .inr (2, [.ref (a 2), .ref (a 3), .int (nI 0)])), aI cy (a 2) 144 (wv newS), aI cy (a 3) 12 sw, (a 4, .inr (3, [.int (nI 6), .int (nI 11), .ref (a 5), .int (nI 0)])), aI cy (a 5) 66 cd, (a 6, .inr (3, [.int (nI 20), .int (nI 6), .ref (a 7), .int (nI 0)])), aI cy (a 7) 120 cs, aI cy (a 8) 8 (mS (pu newS)), aI cy (a 9) 6 pl] H := hP
  have hD : va_D A [(a 0, .inr (0, [.ref (a 1), .ref (a 4), .ref (a 6), .ref (a 8), .ref (a 9), .int (nI 0), .int (nI 0), .int (nI 0), .int (nI 0), .int (nI (v 6)), .int (nI (v 7))])), (a 1, .inr (2, [.ref (a 2), .ref (a 3), .int (nI 0)])), aI cy (a 2) 144 (wv newS), aI cy (a 3) 12 sw, (a 4, .inr (3, [.int (nI 6), .int (nI 11), .ref (a 5), .int (nI 0)])), aI cy (a 5) 66 cd, (a 6, .inr (3, [.int (nI 20), .int (nI 6), .ref (a 7), .int (nI 0)])), aI cy (a 7) 120 cs, aI cy (a 8) 8 (mS (pu newS)), aI cy (a 9) 6 pl] := hD
  refine lv_aload_n hx hb dX0_makeNew_49 rfl (lv_at hl 0 rfl) ?_
  refine lv_iconst (v := (nI 5)) hx hb dX0_makeNew_50 (by decide) ?_
  refine va_put (D := g) (ci := 0) (v := .int (nI 5)) (ty := .int) (C := RX0) (T := TX0) (N := 11) hx hb hts bgX0 tyX0 tyX0_ok nmX0 hown hK hP hD hS 0 rfl rfl 9 (by decide) (hts _ wd4_4) (fun _ h9 => h9) rfl (by decide +kernel) rfl rfl (Nat.le_of_ble_eq_true rfl) dX0_makeNew_51 (fun H locs hP hD hS => ?_)
  have hP : va_P g vwCl [(a 0, .inr (0, [.ref (a 1), .ref (a 4), .ref (a 6), .ref (a 8), .ref (a 9), .int (nI 0), .int (nI 0), .int (nI 0), .int (nI 0), .int (nI 5), .int (nI (v 7))])), (a 1, .inr (2, [.ref (a 2), .ref (a 3), .int (nI 0)])), aI cy (a 2) 144 (wv newS), aI cy (a 3) 12 sw, (a 4, .inr (3, [.int (nI 6), .int (nI 11), .ref (a 5), .int (nI 0)])), aI cy (a 5) 66 cd, (a 6, .inr (3, [.int (nI 20), .int (nI 6), .ref (a 7), .int (nI 0)])), aI cy (a 7) 120 cs, aI cy (a 8) 8 (mS (pu newS)), aI cy (a 9) 6 pl] H := hP
  have hD : va_D A [(a 0, .inr (0, [.ref (a 1), .ref (a 4), .ref (a 6), .ref (a 8), .ref (a 9), .int (nI 0), .int (nI 0), .int (nI 0), .int (nI 0), .int (nI 5), .int (nI (v 7))])), (a 1, .inr (2, [.ref (a 2), .ref (a 3), .int (nI 0)])), aI cy (a 2) 144 (wv newS), aI cy (a 3) 12 sw, (a 4, .inr (3, [.int (nI 6), .int (nI 11), .ref (a 5), .int (nI 0)])), aI cy (a 5) 66 cd, (a 6, .inr (3, [.int (nI 20), .int (nI 6), .ref (a 7), .int (nI 0)])), aI cy (a 7) 120 cs, aI cy (a 8) 8 (mS (pu newS)), aI cy (a 9) 6 pl] := hD
  refine lv_aload_n hx hb dX0_makeNew_54 rfl (lv_at hl 0 rfl) ?_
  refine lv_iconst (v := (nI 2)) hx hb dX0_makeNew_55 (by decide) ?_
  refine va_put (D := g) (ci := 0) (v := .int (nI 2)) (ty := .int) (C := RX0) (T := TX0) (N := 11) hx hb hts bgX0 tyX0 tyX0_ok nmX0 hown hK hP hD hS 0 rfl rfl 10 (by decide) (hts _ wd4_5) (fun _ h9 => h9) rfl (by decide +kernel) rfl rfl (Nat.le_of_ble_eq_true rfl) dX0_makeNew_56 (fun H locs hP hD hS => ?_)
  have hP : va_P g vwCl [(a 0, .inr (0, [.ref (a 1), .ref (a 4), .ref (a 6), .ref (a 8), .ref (a 9), .int (nI 0), .int (nI 0), .int (nI 0), .int (nI 0), .int (nI 5), .int (nI 2)])), (a 1, .inr (2, [.ref (a 2), .ref (a 3), .int (nI 0)])), aI cy (a 2) 144 (wv newS), aI cy (a 3) 12 sw, (a 4, .inr (3, [.int (nI 6), .int (nI 11), .ref (a 5), .int (nI 0)])), aI cy (a 5) 66 cd, (a 6, .inr (3, [.int (nI 20), .int (nI 6), .ref (a 7), .int (nI 0)])), aI cy (a 7) 120 cs, aI cy (a 8) 8 (mS (pu newS)), aI cy (a 9) 6 pl] H := hP
  have hD : va_D A [(a 0, .inr (0, [.ref (a 1), .ref (a 4), .ref (a 6), .ref (a 8), .ref (a 9), .int (nI 0), .int (nI 0), .int (nI 0), .int (nI 0), .int (nI 5), .int (nI 2)])), (a 1, .inr (2, [.ref (a 2), .ref (a 3), .int (nI 0)])), aI cy (a 2) 144 (wv newS), aI cy (a 3) 12 sw, (a 4, .inr (3, [.int (nI 6), .int (nI 11), .ref (a 5), .int (nI 0)])), aI cy (a 5) 66 cd, (a 6, .inr (3, [.int (nI 20), .int (nI 6), .ref (a 7), .int (nI 0)])), aI cy (a 7) 120 cs, aI cy (a 8) 8 (mS (pu newS)), aI cy (a 9) 6 pl] := hD
  exact wr_v (b5 sw cd cs pl) rfl trivial (by rw [cmk_newS]; exact hP) hS hx hb hr dX0_makeNew_59 hlk
set_option maxHeartbeats 4000000 in
set_option maxRecDepth 100000 in
theorem c_X0_copyFrom (l : Launch) (g : va_G) (cy : Nat → ClassId) (sz : Nat) (a : Nat → Nat) (e : Nat → Nat) (v : Nat → Nat) (cl : Nat) (Wv : Nat → Int32) (sw : Nat → Int32) (cd : Nat → Int32) (cs : Nat → Int32) (Pv : Nat → Int32) (pl : Nat → Int32) (v2 : Nat → Nat) (cl2 : Nat) (Wv2 : Nat → Int32) (sw2 : Nat → Int32) (cd2 : Nat → Int32) (cs2 : Nat → Int32) (Pv2 : Nat → Int32) (pl2 : Nat → Int32) : Met l yX0_copyFrom (Cond.code yX0_copyFrom cX0_copyFrom 2 none :: wsL_law) ({ frames := 2, cells := 0, slots := 0, locals := 61 } : Room) (va_Pc [.ref (a 0), .ref (e 0)] (pr g cy [(a 0, .inr (0, [.ref (a 1), .ref (a 4), .ref (a 6), .ref (a 8), .ref (a 9), .int (nI (v 2)), .int (nI (v 3)), .int (nI (v 4)), .int (nI (v 5)), .int (nI (v 6)), .int (nI (v 7))])), (a 1, .inr (2, [.ref (a 2), .ref (a 3), .int (nI cl)])), aI cy (a 2) 144 Wv, aI cy (a 3) 12 sw, (a 4, .inr (3, [.int (nI 6), .int (nI 11), .ref (a 5), .int (nI (v 0))])), aI cy (a 5) 66 cd, (a 6, .inr (3, [.int (nI 20), .int (nI 6), .ref (a 7), .int (nI (v 1))])), aI cy (a 7) 120 cs, aI cy (a 8) 8 Pv, aI cy (a 9) 6 pl, (e 0, .inr (0, [.ref (e 1), .ref (e 4), .ref (e 6), .ref (e 8), .ref (e 9), .int (nI (v2 2)), .int (nI (v2 3)), .int (nI (v2 4)), .int (nI (v2 5)), .int (nI (v2 6)), .int (nI (v2 7))])), (e 1, .inr (2, [.ref (e 2), .ref (e 3), .int (nI cl2)])), aI cy (e 2) 144 Wv2, aI cy (e 3) 12 sw2, (e 4, .inr (3, [.int (nI 6), .int (nI 11), .ref (e 5), .int (nI (v2 0))])), aI cy (e 5) 66 cd2, (e 6, .inr (3, [.int (nI 20), .int (nI 6), .ref (e 7), .int (nI (v2 1))])), aI cy (e 7) 120 cs2, aI cy (e 8) 8 Pv2, aI cy (e 9) 6 pl2] sz)) (wr_Q (fun _ : Unit => none) (fun _ : Unit => True) (fun _ : Unit => [(a 0, .inr (0, [.ref (a 1), .ref (a 4), .ref (a 6), .ref (a 8), .ref (a 9), .int (nI (v2 2)), .int (nI (v2 3)), .int (nI (v2 4)), .int (nI (v2 5)), .int (nI (v2 6)), .int (nI (v2 7))])), (a 1, .inr (2, [.ref (a 2), .ref (a 3), .int (nI cl2)])), aI cy (a 2) 144 Wv2, aI cy (a 3) 12 sw, (a 4, .inr (3, [.int (nI 6), .int (nI 11), .ref (a 5), .int (nI (v2 0))])), aI cy (a 5) 66 cd2, (a 6, .inr (3, [.int (nI 20), .int (nI 6), .ref (a 7), .int (nI (v2 1))])), aI cy (a 7) 120 cs2, aI cy (a 8) 8 Pv2, aI cy (a 9) 6 pl, (e 0, .inr (0, [.ref (e 1), .ref (e 4), .ref (e 6), .ref (e 8), .ref (e 9), .int (nI (v2 2)), .int (nI (v2 3)), .int (nI (v2 4)), .int (nI (v2 5)), .int (nI (v2 6)), .int (nI (v2 7))])), (e 1, .inr (2, [.ref (e 2), .ref (e 3), .int (nI cl2)])), aI cy (e 2) 144 Wv2, aI cy (e 3) 12 sw2, (e 4, .inr (3, [.int (nI 6), .int (nI 11), .ref (e 5), .int (nI (v2 0))])), aI cy (e 5) 66 cd2, (e 6, .inr (3, [.int (nI 20), .int (nI 6), .ref (e 7), .int (nI (v2 1))])), aI cy (e 7) 120 cs2, aI cy (e 8) 8 Pv2, aI cy (e 9) 6 pl2]) g (va_A [(a 0, .inr (0, [.ref (a 1), .ref (a 4), .ref (a 6), .ref (a 8), .ref (a 9), .int (nI (v 2)), .int (nI (v 3)), .int (nI (v 4)), .int (nI (v 5)), .int (nI (v 6)), .int (nI (v 7))])), (a 1, .inr (2, [.ref (a 2), .ref (a 3), .int (nI cl)])), aI cy (a 2) 144 Wv, aI cy (a 3) 12 sw, (a 4, .inr (3, [.int (nI 6), .int (nI 11), .ref (a 5), .int (nI (v 0))])), aI cy (a 5) 66 cd, (a 6, .inr (3, [.int (nI 20), .int (nI 6), .ref (a 7), .int (nI (v 1))])), aI cy (a 7) 120 cs, aI cy (a 8) 8 Pv, aI cy (a 9) 6 pl, (e 0, .inr (0, [.ref (e 1), .ref (e 4), .ref (e 6), .ref (e 8), .ref (e 9), .int (nI (v2 2)), .int (nI (v2 3)), .int (nI (v2 4)), .int (nI (v2 5)), .int (nI (v2 6)), .int (nI (v2 7))])), (e 1, .inr (2, [.ref (e 2), .ref (e 3), .int (nI cl2)])), aI cy (e 2) 144 Wv2, aI cy (e 3) 12 sw2, (e 4, .inr (3, [.int (nI 6), .int (nI 11), .ref (e 5), .int (nI (v2 0))])), aI cy (e 5) 66 cd2, (e 6, .inr (3, [.int (nI 20), .int (nI 6), .ref (e 7), .int (nI (v2 1))])), aI cy (e 7) 120 cs2, aI cy (e 8) 8 Pv2, aI cy (e 9) 6 pl2] sz)) 0 0 (va_A [(a 0, .inr (0, [.ref (a 1), .ref (a 4), .ref (a 6), .ref (a 8), .ref (a 9), .int (nI (v 2)), .int (nI (v 3)), .int (nI (v 4)), .int (nI (v 5)), .int (nI (v 6)), .int (nI (v 7))])), (a 1, .inr (2, [.ref (a 2), .ref (a 3), .int (nI cl)])), aI cy (a 2) 144 Wv, aI cy (a 3) 12 sw, (a 4, .inr (3, [.int (nI 6), .int (nI 11), .ref (a 5), .int (nI (v 0))])), aI cy (a 5) 66 cd, (a 6, .inr (3, [.int (nI 20), .int (nI 6), .ref (a 7), .int (nI (v 1))])), aI cy (a 7) 120 cs, aI cy (a 8) 8 Pv, aI cy (a 9) 6 pl, (e 0, .inr (0, [.ref (e 1), .ref (e 4), .ref (e 6), .ref (e 8), .ref (e 9), .int (nI (v2 2)), .int (nI (v2 3)), .int (nI (v2 4)), .int (nI (v2 5)), .int (nI (v2 6)), .int (nI (v2 7))])), (e 1, .inr (2, [.ref (e 2), .ref (e 3), .int (nI cl2)])), aI cy (e 2) 144 Wv2, aI cy (e 3) 12 sw2, (e 4, .inr (3, [.int (nI 6), .int (nI 11), .ref (e 5), .int (nI (v2 0))])), aI cy (e 5) 66 cd2, (e 6, .inr (3, [.int (nI 20), .int (nI 6), .ref (e 7), .int (nI (v2 1))])), aI cy (e 7) 120 cs2, aI cy (e 8) 8 Pv2, aI cy (e 9) 6 pl2] sz) := by
  refine mt_of (cc := cX0_copyFrom) (maxL := 2) (ret := none) (by decide +kernel) (Nat.le_of_ble_eq_true rfl) ?_
  intro pX eX s mX below meth cX ls A hx hb hr hml hown hts hlk hin hsz hAe hA hP hD hK hX hl
  subst hsz
  rw [← hAe]
  clear hAe
  have hl : lv_has ls 2 [(0, .ref (a 0)), (1, .ref (e 0))] := hl
  have hS : va_S A s.heap s.heap [] := va_S.rf
  refine lv_aload_n hx hb dX0_copyFrom_0 rfl (lv_at hl 0 rfl) ?_
  refine va_get (D := g) (ci := 0) (v := .ref (a 1)) (C := RX0) (T := TX0) (N := 11) hx hb hts bgX0 hown hK hP 0 rfl rfl 0 (by decide) (hts _ wd2_8) (fun _ h9 => h9) rfl dX0_copyFrom_1 ?_
  refine lv_aload_n hx hb dX0_copyFrom_4 rfl (lv_at hl 1 rfl) ?_
  refine va_get (D := g) (ci := 0) (v := .ref (e 1)) (C := RX0) (T := TX0) (N := 11) hx hb hts bgX0 hown hK hP 10 rfl rfl 0 (by decide) (hts _ wd2_8) (fun _ h9 => h9) rfl dX0_copyFrom_5 ?_
  refine wr_call (wc := [(a 1, .inr (2, [.ref (a 2), .ref (a 3), .int (nI cl)])), aI cy (a 2) 144 Wv, aI cy (a 3) 12 sw, (e 1, .inr (2, [.ref (e 2), .ref (e 3), .int (nI cl2)])), aI cy (e 2) 144 Wv2, aI cy (e 3) 12 sw2]) (va_runV (As := [.ref (e 1)]) (rest := []) ⟨hx, hb, hml, hown, hts⟩ (c_X2_copyFrom l g cy (a 1) (a 2) (a 3) (e 1) (e 2) (e 3) s.heap.size Wv sw cl Wv2 sw2 cl2 ) ⟨(cB 1 hts wd8_5 wd2_7 wd8_2 rfl rfl (by decide +kernel) ⟨Nat.le_of_ble_eq_true rfl, Nat.le_of_ble_eq_true rfl⟩), hts _ wd8_3, hts _ wd8_4⟩ (pv hK hP hD hS hA hX [1, 2, 3, 11, 12, 13] rfl rfl 2 1 rfl rfl) rfl rfl hl.1 rfl (lv_room (Nat.le_of_ble_eq_true rfl)) dX0_copyFrom_8 ⟨Nat.zero_le _, Nat.zero_le _⟩) hP hD hS hA [1, 2, 3, 11, 12, 13] rfl rfl (fun _ => (rfl : ([a 1, a 2, a 3, e 1, e 2, e 3] : List Nat) = [a 1, a 2, a 3, e 1, e 2, e 3])) ?_
  rintro _u9 H locs - hP hD hS
  have hP : va_P g vwCl [(a 0, .inr (0, [.ref (a 1), .ref (a 4), .ref (a 6), .ref (a 8), .ref (a 9), .int (nI (v 2)), .int (nI (v 3)), .int (nI (v 4)), .int (nI (v 5)), .int (nI (v 6)), .int (nI (v 7))])), (a 1, .inr (2, [.ref (a 2), .ref (a 3), .int (nI cl2)])), aI cy (a 2) 144 Wv2, aI cy (a 3) 12 sw, (a 4, .inr (3, [.int (nI 6), .int (nI 11), .ref (a 5), .int (nI (v 0))])), aI cy (a 5) 66 cd, (a 6, .inr (3, [.int (nI 20), .int (nI 6), .ref (a 7), .int (nI (v 1))])), aI cy (a 7) 120 cs, aI cy (a 8) 8 Pv, aI cy (a 9) 6 pl, (e 0, .inr (0, [.ref (e 1), .ref (e 4), .ref (e 6), .ref (e 8), .ref (e 9), .int (nI (v2 2)), .int (nI (v2 3)), .int (nI (v2 4)), .int (nI (v2 5)), .int (nI (v2 6)), .int (nI (v2 7))])), (e 1, .inr (2, [.ref (e 2), .ref (e 3), .int (nI cl2)])), aI cy (e 2) 144 Wv2, aI cy (e 3) 12 sw2, (e 4, .inr (3, [.int (nI 6), .int (nI 11), .ref (e 5), .int (nI (v2 0))])), aI cy (e 5) 66 cd2, (e 6, .inr (3, [.int (nI 20), .int (nI 6), .ref (e 7), .int (nI (v2 1))])), aI cy (e 7) 120 cs2, aI cy (e 8) 8 Pv2, aI cy (e 9) 6 pl2] H := hP
  have hD : va_D A [(a 0, .inr (0, [.ref (a 1), .ref (a 4), .ref (a 6), .ref (a 8), .ref (a 9), .int (nI (v 2)), .int (nI (v 3)), .int (nI (v 4)), .int (nI (v 5)), .int (nI (v 6)), .int (nI (v 7))])), (a 1, .inr (2, [.ref (a 2), .ref (a 3), .int (nI cl2)])), aI cy (a 2) 144 Wv2, aI cy (a 3) 12 sw, (a 4, .inr (3, [.int (nI 6), .int (nI 11), .ref (a 5), .int (nI (v 0))])), aI cy (a 5) 66 cd, (a 6, .inr (3, [.int (nI 20), .int (nI 6), .ref (a 7), .int (nI (v 1))])), aI cy (a 7) 120 cs, aI cy (a 8) 8 Pv, aI cy (a 9) 6 pl, (e 0, .inr (0, [.ref (e 1), .ref (e 4), .ref (e 6), .ref (e 8), .ref (e 9), .int (nI (v2 2)), .int (nI (v2 3)), .int (nI (v2 4)), .int (nI (v2 5)), .int (nI (v2 6)), .int (nI (v2 7))])), (e 1, .inr (2, [.ref (e 2), .ref (e 3), .int (nI cl2)])), aI cy (e 2) 144 Wv2, aI cy (e 3) 12 sw2, (e 4, .inr (3, [.int (nI 6), .int (nI 11), .ref (e 5), .int (nI (v2 0))])), aI cy (e 5) 66 cd2, (e 6, .inr (3, [.int (nI 20), .int (nI 6), .ref (e 7), .int (nI (v2 1))])), aI cy (e 7) 120 cs2, aI cy (e 8) 8 Pv2, aI cy (e 9) 6 pl2] := hD
  show W _ _ _ _ _ _ _ _ _ _ _ _ _ _ _ (F0 mX 11 ls [])
  refine lv_aload_n hx hb dX0_copyFrom_11 rfl (lv_at hl 0 rfl) ?_
  refine va_get (D := g) (ci := 0) (v := .ref (a 4)) (C := RX0) (T := TX0) (N := 11) hx hb hts bgX0 hown hK hP 0 rfl rfl 1 (by decide) (hts _ wd2_12) (fun _ h9 => h9) rfl dX0_copyFrom_12 ?_
  refine lv_aload_n hx hb dX0_copyFrom_15 rfl (lv_at hl 1 rfl) ?_
  refine va_get (D := g) (ci := 0) (v := .ref (e 4)) (C := RX0) (T := TX0) (N := 11) hx hb hts bgX0 hown hK hP 10 rfl rfl 1 (by decide) (hts _ wd2_12) (fun _ h9 => h9) rfl dX0_copyFrom_16 ?_
  refine wr_call (wc := [(a 4, .inr (3, [.int (nI 6), .int (nI 11), .ref (a 5), .int (nI (v 0))])), aI cy (a 5) 66 cd, (e 4, .inr (3, [.int (nI 6), .int (nI 11), .ref (e 5), .int (nI (v2 0))])), aI cy (e 5) 66 cd2]) (va_runV (As := [.ref (e 4)]) (rest := []) ⟨hx, hb, hml, hown, hts⟩ (c_X3_copyFrom l g cy (a 4) (a 5) (e 4) (e 5) H.size 6 11 66 cd (v 0) cd2 (v2 0) (by omega)) ⟨(cB 1 hts wd8_11 wd2_11 wd8_8 rfl rfl (by decide +kernel) ⟨Nat.le_of_ble_eq_true rfl, Nat.le_of_ble_eq_true rfl⟩), hts _ wd8_9, hts _ wd8_10⟩ (pv hK hP hD hS hA hX [4, 5, 14, 15] rfl rfl 3 4 rfl rfl) rfl rfl hl.1 rfl (lv_room (Nat.le_of_ble_eq_true rfl)) dX0_copyFrom_19 ⟨Nat.zero_le _, Nat.zero_le _⟩) hP hD hS hA [4, 5, 14, 15] rfl rfl (fun _ => (rfl : ([a 4, a 5, e 4, e 5] : List Nat) = [a 4, a 5, e 4, e 5])) ?_
  rintro _u9 H locs - hP hD hS
  have hP : va_P g vwCl [(a 0, .inr (0, [.ref (a 1), .ref (a 4), .ref (a 6), .ref (a 8), .ref (a 9), .int (nI (v 2)), .int (nI (v 3)), .int (nI (v 4)), .int (nI (v 5)), .int (nI (v 6)), .int (nI (v 7))])), (a 1, .inr (2, [.ref (a 2), .ref (a 3), .int (nI cl2)])), aI cy (a 2) 144 Wv2, aI cy (a 3) 12 sw, (a 4, .inr (3, [.int (nI 6), .int (nI 11), .ref (a 5), .int (nI (v2 0))])), aI cy (a 5) 66 cd2, (a 6, .inr (3, [.int (nI 20), .int (nI 6), .ref (a 7), .int (nI (v 1))])), aI cy (a 7) 120 cs, aI cy (a 8) 8 Pv, aI cy (a 9) 6 pl, (e 0, .inr (0, [.ref (e 1), .ref (e 4), .ref (e 6), .ref (e 8), .ref (e 9), .int (nI (v2 2)), .int (nI (v2 3)), .int (nI (v2 4)), .int (nI (v2 5)), .int (nI (v2 6)), .int (nI (v2 7))])), (e 1, .inr (2, [.ref (e 2), .ref (e 3), .int (nI cl2)])), aI cy (e 2) 144 Wv2, aI cy (e 3) 12 sw2, (e 4, .inr (3, [.int (nI 6), .int (nI 11), .ref (e 5), .int (nI (v2 0))])), aI cy (e 5) 66 cd2, (e 6, .inr (3, [.int (nI 20), .int (nI 6), .ref (e 7), .int (nI (v2 1))])), aI cy (e 7) 120 cs2, aI cy (e 8) 8 Pv2, aI cy (e 9) 6 pl2] H := hP
  have hD : va_D A [(a 0, .inr (0, [.ref (a 1), .ref (a 4), .ref (a 6), .ref (a 8), .ref (a 9), .int (nI (v 2)), .int (nI (v 3)), .int (nI (v 4)), .int (nI (v 5)), .int (nI (v 6)), .int (nI (v 7))])), (a 1, .inr (2, [.ref (a 2), .ref (a 3), .int (nI cl2)])), aI cy (a 2) 144 Wv2, aI cy (a 3) 12 sw, (a 4, .inr (3, [.int (nI 6), .int (nI 11), .ref (a 5), .int (nI (v2 0))])), aI cy (a 5) 66 cd2, (a 6, .inr (3, [.int (nI 20), .int (nI 6), .ref (a 7), .int (nI (v 1))])), aI cy (a 7) 120 cs, aI cy (a 8) 8 Pv, aI cy (a 9) 6 pl, (e 0, .inr (0, [.ref (e 1), .ref (e 4), .ref (e 6), .ref (e 8), .ref (e 9), .int (nI (v2 2)), .int (nI (v2 3)), .int (nI (v2 4)), .int (nI (v2 5)), .int (nI (v2 6)), .int (nI (v2 7))])), (e 1, .inr (2, [.ref (e 2), .ref (e 3), .int (nI cl2)])), aI cy (e 2) 144 Wv2, aI cy (e 3) 12 sw2, (e 4, .inr (3, [.int (nI 6), .int (nI 11), .ref (e 5), .int (nI (v2 0))])), aI cy (e 5) 66 cd2, (e 6, .inr (3, [.int (nI 20), .int (nI 6), .ref (e 7), .int (nI (v2 1))])), aI cy (e 7) 120 cs2, aI cy (e 8) 8 Pv2, aI cy (e 9) 6 pl2] := hD
  show W _ _ _ _ _ _ _ _ _ _ _ _ _ _ _ (F0 mX 22 ls [])
  refine lv_aload_n hx hb dX0_copyFrom_22 rfl (lv_at hl 0 rfl) ?_
  refine va_get (D := g) (ci := 0) (v := .ref (a 6)) (C := RX0) (T := TX0) (N := 11) hx hb hts bgX0 hown hK hP 0 rfl rfl 2 (by decide) (hts _ wd2_13) (fun _ h9 => h9) rfl dX0_copyFrom_23 ?_
  refine lv_aload_n hx hb dX0_copyFrom_26 rfl (lv_at hl 1 rfl) ?_
  refine va_get (D := g) (ci := 0) (v := .ref (e 6)) (C := RX0) (T := TX0) (N := 11) hx hb hts bgX0 hown hK hP 10 rfl rfl 2 (by decide) (hts _ wd2_13) (fun _ h9 => h9) rfl dX0_copyFrom_27 ?_
  refine wr_call (wc := [(a 6, .inr (3, [.int (nI 20), .int (nI 6), .ref (a 7), .int (nI (v 1))])), aI cy (a 7) 120 cs, (e 6, .inr (3, [.int (nI 20), .int (nI 6), .ref (e 7), .int (nI (v2 1))])), aI cy (e 7) 120 cs2]) (va_runV (As := [.ref (e 6)]) (rest := []) ⟨hx, hb, hml, hown, hts⟩ (c_X3_copyFrom l g cy (a 6) (a 7) (e 6) (e 7) H.size 20 6 120 cs (v 1) cs2 (v2 1) (by omega)) ⟨(cB 1 hts wd8_11 wd2_11 wd8_8 rfl rfl (by decide +kernel) ⟨Nat.le_of_ble_eq_true rfl, Nat.le_of_ble_eq_true rfl⟩), hts _ wd8_9, hts _ wd8_10⟩ (pv hK hP hD hS hA hX [6, 7, 16, 17] rfl rfl 3 6 rfl rfl) rfl rfl hl.1 rfl (lv_room (Nat.le_of_ble_eq_true rfl)) dX0_copyFrom_30 ⟨Nat.zero_le _, Nat.zero_le _⟩) hP hD hS hA [6, 7, 16, 17] rfl rfl (fun _ => (rfl : ([a 6, a 7, e 6, e 7] : List Nat) = [a 6, a 7, e 6, e 7])) ?_
  rintro _u9 H locs - hP hD hS
  have hP : va_P g vwCl [(a 0, .inr (0, [.ref (a 1), .ref (a 4), .ref (a 6), .ref (a 8), .ref (a 9), .int (nI (v 2)), .int (nI (v 3)), .int (nI (v 4)), .int (nI (v 5)), .int (nI (v 6)), .int (nI (v 7))])), (a 1, .inr (2, [.ref (a 2), .ref (a 3), .int (nI cl2)])), aI cy (a 2) 144 Wv2, aI cy (a 3) 12 sw, (a 4, .inr (3, [.int (nI 6), .int (nI 11), .ref (a 5), .int (nI (v2 0))])), aI cy (a 5) 66 cd2, (a 6, .inr (3, [.int (nI 20), .int (nI 6), .ref (a 7), .int (nI (v2 1))])), aI cy (a 7) 120 cs2, aI cy (a 8) 8 Pv, aI cy (a 9) 6 pl, (e 0, .inr (0, [.ref (e 1), .ref (e 4), .ref (e 6), .ref (e 8), .ref (e 9), .int (nI (v2 2)), .int (nI (v2 3)), .int (nI (v2 4)), .int (nI (v2 5)), .int (nI (v2 6)), .int (nI (v2 7))])), (e 1, .inr (2, [.ref (e 2), .ref (e 3), .int (nI cl2)])), aI cy (e 2) 144 Wv2, aI cy (e 3) 12 sw2, (e 4, .inr (3, [.int (nI 6), .int (nI 11), .ref (e 5), .int (nI (v2 0))])), aI cy (e 5) 66 cd2, (e 6, .inr (3, [.int (nI 20), .int (nI 6), .ref (e 7), .int (nI (v2 1))])), aI cy (e 7) 120 cs2, aI cy (e 8) 8 Pv2, aI cy (e 9) 6 pl2] H := hP
  have hD : va_D A [(a 0, .inr (0, [.ref (a 1), .ref (a 4), .ref (a 6), .ref (a 8), .ref (a 9), .int (nI (v 2)), .int (nI (v 3)), .int (nI (v 4)), .int (nI (v 5)), .int (nI (v 6)), .int (nI (v 7))])), (a 1, .inr (2, [.ref (a 2), .ref (a 3), .int (nI cl2)])), aI cy (a 2) 144 Wv2, aI cy (a 3) 12 sw, (a 4, .inr (3, [.int (nI 6), .int (nI 11), .ref (a 5), .int (nI (v2 0))])), aI cy (a 5) 66 cd2, (a 6, .inr (3, [.int (nI 20), .int (nI 6), .ref (a 7), .int (nI (v2 1))])), aI cy (a 7) 120 cs2, aI cy (a 8) 8 Pv, aI cy (a 9) 6 pl, (e 0, .inr (0, [.ref (e 1), .ref (e 4), .ref (e 6), .ref (e 8), .ref (e 9), .int (nI (v2 2)), .int (nI (v2 3)), .int (nI (v2 4)), .int (nI (v2 5)), .int (nI (v2 6)), .int (nI (v2 7))])), (e 1, .inr (2, [.ref (e 2), .ref (e 3), .int (nI cl2)])), aI cy (e 2) 144 Wv2, aI cy (e 3) 12 sw2, (e 4, .inr (3, [.int (nI 6), .int (nI 11), .ref (e 5), .int (nI (v2 0))])), aI cy (e 5) 66 cd2, (e 6, .inr (3, [.int (nI 20), .int (nI 6), .ref (e 7), .int (nI (v2 1))])), aI cy (e 7) 120 cs2, aI cy (e 8) 8 Pv2, aI cy (e 9) 6 pl2] := hD
  show W _ _ _ _ _ _ _ _ _ _ _ _ _ _ _ (F0 mX 33 ls [])
  refine lv_aload_n hx hb dX0_copyFrom_33 rfl (lv_at hl 1 rfl) ?_
  refine va_get (D := g) (ci := 0) (v := .ref (e 8)) (C := RX0) (T := TX0) (N := 11) hx hb hts bgX0 hown hK hP 10 rfl rfl 3 (by decide) (hts _ wd2_15) (fun _ h9 => h9) rfl dX0_copyFrom_34 ?_
  refine lv_iconst (v := (nI 0)) hx hb dX0_copyFrom_37 (by decide) ?_
  refine lv_aload_n hx hb dX0_copyFrom_38 rfl (lv_at hl 0 rfl) ?_
  refine va_get (D := g) (ci := 0) (v := .ref (a 8)) (C := RX0) (T := TX0) (N := 11) hx hb hts bgX0 hown hK hP 0 rfl rfl 3 (by decide) (hts _ wd2_15) (fun _ h9 => h9) rfl dX0_copyFrom_39 ?_
  refine lv_iconst (v := (nI 0)) hx hb dX0_copyFrom_42 (by decide) ?_
  refine lv_aload_n hx hb dX0_copyFrom_43 rfl (lv_at hl 1 rfl) ?_
  refine va_get (D := g) (ci := 0) (v := .ref (e 8)) (C := RX0) (T := TX0) (N := 11) hx hb hts bgX0 hown hK hP 10 rfl rfl 3 (by decide) (hts _ wd2_15) (fun _ h9 => h9) rfl dX0_copyFrom_44 ?_
  refine va_alen (v := nI 8) hx hb hK hP 18 0 rfl rfl rfl dX0_copyFrom_47 ?_
  refine lv_aload_n hx hb dX0_copyFrom_48 rfl (lv_at hl 0 rfl) ?_
  refine va_get (D := g) (ci := 0) (v := .ref (a 8)) (C := RX0) (T := TX0) (N := 11) hx hb hts bgX0 hown hK hP 0 rfl rfl 3 (by decide) (hts _ wd2_15) (fun _ h9 => h9) rfl dX0_copyFrom_49 ?_
  refine va_alen (v := nI 8) hx hb hK hP 8 0 rfl rfl rfl dX0_copyFrom_52 ?_
  refine va_mmin hx hb (by rw [hml]; exact hl.1.symm) hown (hts _ wd7_19) (hts _ wd7_20) (hts _ wd3_6) (hts _ wd7_21) (Nat.le_of_ble_eq_true rfl) (Nat.le_of_ble_eq_true rfl) (Nat.zero_le _) (Nat.zero_le _) dX0_copyFrom_53 ?_
  refine ti (show (if (nI 8) < (nI 8) then (nI 8) else (nI 8)) = (nI 8) from (min_self _)) ?_
  refine va_copyi hx hb (by rw [hml]; exact hl.1.symm) hown (hts _ wd7_22) (hts _ wd7_23) (hts _ wd8_0) (hts _ wd8_1) hK hP hD hS 18 8 0 0 rfl rfl rfl rfl rfl (nI_pos (by omega)) (nI_pos (by omega)) (nI_pos (by omega)) (by rw [nI_clamp (by omega), nI_clamp (by omega)]; omega) (by rw [nI_clamp (by omega), nI_clamp (by omega)]; omega) (fun i _ => rfl) (Nat.le_of_ble_eq_true rfl) (Nat.le_of_ble_eq_true rfl) dX0_copyFrom_56 (fun H locs hP hD hS => ?_)
  rw [nI_clamp (n := 0) (by omega), nI_clamp (n := 8) (by omega)] at hP hD
  have hP : va_P g vwCl [(a 0, .inr (0, [.ref (a 1), .ref (a 4), .ref (a 6), .ref (a 8), .ref (a 9), .int (nI (v 2)), .int (nI (v 3)), .int (nI (v 4)), .int (nI (v 5)), .int (nI (v 6)), .int (nI (v 7))])), (a 1, .inr (2, [.ref (a 2), .ref (a 3), .int (nI cl2)])), aI cy (a 2) 144 Wv2, aI cy (a 3) 12 sw, (a 4, .inr (3, [.int (nI 6), .int (nI 11), .ref (a 5), .int (nI (v2 0))])), aI cy (a 5) 66 cd2, (a 6, .inr (3, [.int (nI 20), .int (nI 6), .ref (a 7), .int (nI (v2 1))])), aI cy (a 7) 120 cs2, aI cy (a 8) 8 (va_cpy Pv2 Pv 0 0 8), aI cy (a 9) 6 pl, (e 0, .inr (0, [.ref (e 1), .ref (e 4), .ref (e 6), .ref (e 8), .ref (e 9), .int (nI (v2 2)), .int (nI (v2 3)), .int (nI (v2 4)), .int (nI (v2 5)), .int (nI (v2 6)), .int (nI (v2 7))])), (e 1, .inr (2, [.ref (e 2), .ref (e 3), .int (nI cl2)])), aI cy (e 2) 144 Wv2, aI cy (e 3) 12 sw2, (e 4, .inr (3, [.int (nI 6), .int (nI 11), .ref (e 5), .int (nI (v2 0))])), aI cy (e 5) 66 cd2, (e 6, .inr (3, [.int (nI 20), .int (nI 6), .ref (e 7), .int (nI (v2 1))])), aI cy (e 7) 120 cs2, aI cy (e 8) 8 Pv2, aI cy (e 9) 6 pl2] H := hP
  have hD : va_D A [(a 0, .inr (0, [.ref (a 1), .ref (a 4), .ref (a 6), .ref (a 8), .ref (a 9), .int (nI (v 2)), .int (nI (v 3)), .int (nI (v 4)), .int (nI (v 5)), .int (nI (v 6)), .int (nI (v 7))])), (a 1, .inr (2, [.ref (a 2), .ref (a 3), .int (nI cl2)])), aI cy (a 2) 144 Wv2, aI cy (a 3) 12 sw, (a 4, .inr (3, [.int (nI 6), .int (nI 11), .ref (a 5), .int (nI (v2 0))])), aI cy (a 5) 66 cd2, (a 6, .inr (3, [.int (nI 20), .int (nI 6), .ref (a 7), .int (nI (v2 1))])), aI cy (a 7) 120 cs2, aI cy (a 8) 8 (va_cpy Pv2 Pv 0 0 8), aI cy (a 9) 6 pl, (e 0, .inr (0, [.ref (e 1), .ref (e 4), .ref (e 6), .ref (e 8), .ref (e 9), .int (nI (v2 2)), .int (nI (v2 3)), .int (nI (v2 4)), .int (nI (v2 5)), .int (nI (v2 6)), .int (nI (v2 7))])), (e 1, .inr (2, [.ref (e 2), .ref (e 3), .int (nI cl2)])), aI cy (e 2) 144 Wv2, aI cy (e 3) 12 sw2, (e 4, .inr (3, [.int (nI 6), .int (nI 11), .ref (e 5), .int (nI (v2 0))])), aI cy (e 5) 66 cd2, (e 6, .inr (3, [.int (nI 20), .int (nI 6), .ref (e 7), .int (nI (v2 1))])), aI cy (e 7) 120 cs2, aI cy (e 8) 8 Pv2, aI cy (e 9) 6 pl2] := hD
  obtain ⟨hP, hD⟩ := arr_c Pv2 hP hD 8 rfl (fun j hj => cpy_all j hj)
  have hP : va_P g vwCl [(a 0, .inr (0, [.ref (a 1), .ref (a 4), .ref (a 6), .ref (a 8), .ref (a 9), .int (nI (v 2)), .int (nI (v 3)), .int (nI (v 4)), .int (nI (v 5)), .int (nI (v 6)), .int (nI (v 7))])), (a 1, .inr (2, [.ref (a 2), .ref (a 3), .int (nI cl2)])), aI cy (a 2) 144 Wv2, aI cy (a 3) 12 sw, (a 4, .inr (3, [.int (nI 6), .int (nI 11), .ref (a 5), .int (nI (v2 0))])), aI cy (a 5) 66 cd2, (a 6, .inr (3, [.int (nI 20), .int (nI 6), .ref (a 7), .int (nI (v2 1))])), aI cy (a 7) 120 cs2, aI cy (a 8) 8 Pv2, aI cy (a 9) 6 pl, (e 0, .inr (0, [.ref (e 1), .ref (e 4), .ref (e 6), .ref (e 8), .ref (e 9), .int (nI (v2 2)), .int (nI (v2 3)), .int (nI (v2 4)), .int (nI (v2 5)), .int (nI (v2 6)), .int (nI (v2 7))])), (e 1, .inr (2, [.ref (e 2), .ref (e 3), .int (nI cl2)])), aI cy (e 2) 144 Wv2, aI cy (e 3) 12 sw2, (e 4, .inr (3, [.int (nI 6), .int (nI 11), .ref (e 5), .int (nI (v2 0))])), aI cy (e 5) 66 cd2, (e 6, .inr (3, [.int (nI 20), .int (nI 6), .ref (e 7), .int (nI (v2 1))])), aI cy (e 7) 120 cs2, aI cy (e 8) 8 Pv2, aI cy (e 9) 6 pl2] H := hP
  have hD : va_D A [(a 0, .inr (0, [.ref (a 1), .ref (a 4), .ref (a 6), .ref (a 8), .ref (a 9), .int (nI (v 2)), .int (nI (v 3)), .int (nI (v 4)), .int (nI (v 5)), .int (nI (v 6)), .int (nI (v 7))])), (a 1, .inr (2, [.ref (a 2), .ref (a 3), .int (nI cl2)])), aI cy (a 2) 144 Wv2, aI cy (a 3) 12 sw, (a 4, .inr (3, [.int (nI 6), .int (nI 11), .ref (a 5), .int (nI (v2 0))])), aI cy (a 5) 66 cd2, (a 6, .inr (3, [.int (nI 20), .int (nI 6), .ref (a 7), .int (nI (v2 1))])), aI cy (a 7) 120 cs2, aI cy (a 8) 8 Pv2, aI cy (a 9) 6 pl, (e 0, .inr (0, [.ref (e 1), .ref (e 4), .ref (e 6), .ref (e 8), .ref (e 9), .int (nI (v2 2)), .int (nI (v2 3)), .int (nI (v2 4)), .int (nI (v2 5)), .int (nI (v2 6)), .int (nI (v2 7))])), (e 1, .inr (2, [.ref (e 2), .ref (e 3), .int (nI cl2)])), aI cy (e 2) 144 Wv2, aI cy (e 3) 12 sw2, (e 4, .inr (3, [.int (nI 6), .int (nI 11), .ref (e 5), .int (nI (v2 0))])), aI cy (e 5) 66 cd2, (e 6, .inr (3, [.int (nI 20), .int (nI 6), .ref (e 7), .int (nI (v2 1))])), aI cy (e 7) 120 cs2, aI cy (e 8) 8 Pv2, aI cy (e 9) 6 pl2] := hD
  refine lv_aload_n hx hb dX0_copyFrom_59 rfl (lv_at hl 0 rfl) ?_
  refine lv_aload_n hx hb dX0_copyFrom_60 rfl (lv_at hl 1 rfl) ?_
  refine va_get (D := g) (ci := 0) (v := .int (nI (v2 2))) (C := RX0) (T := TX0) (N := 11) hx hb hts bgX0 hown hK hP 10 rfl rfl 5 (by decide) (hts _ wd4_0) (fun _ h9 => h9) rfl dX0_copyFrom_61 ?_
  refine va_put (D := g) (ci := 0) (v := .int (nI (v2 2))) (ty := .int) (C := RX0) (T := TX0) (N := 11) hx hb hts bgX0 tyX0 tyX0_ok nmX0 hown hK hP hD hS 0 rfl rfl 5 (by decide) (hts _ wd4_0) (fun _ h9 => h9) rfl (by decide +kernel) rfl rfl (Nat.le_of_ble_eq_true rfl) dX0_copyFrom_64 (fun H locs hP hD hS => ?_)
  have hP : va_P g vwCl [(a 0, .inr (0, [.ref (a 1), .ref (a 4), .ref (a 6), .ref (a 8), .ref (a 9), .int (nI (v2 2)), .int (nI (v 3)), .int (nI (v 4)), .int (nI (v 5)), .int (nI (v 6)), .int (nI (v 7))])), (a 1, .inr (2, [.ref (a 2), .ref (a 3), .int (nI cl2)])), aI cy (a 2) 144 Wv2, aI cy (a 3) 12 sw, (a 4, .inr (3, [.int (nI 6), .int (nI 11), .ref (a 5), .int (nI (v2 0))])), aI cy (a 5) 66 cd2, (a 6, .inr (3, [.int (nI 20), .int (nI 6), .ref (a 7), .int (nI (v2 1))])), aI cy (a 7) 120 cs2, aI cy (a 8) 8 Pv2, aI cy (a 9) 6 pl, (e 0, .inr (0, [.ref (e 1), .ref (e 4), .ref (e 6), .ref (e 8), .ref (e 9), .int (nI (v2 2)), .int (nI (v2 3)), .int (nI (v2 4)), .int (nI (v2 5)), .int (nI (v2 6)), .int (nI (v2 7))])), (e 1, .inr (2, [.ref (e 2), .ref (e 3), .int (nI cl2)])), aI cy (e 2) 144 Wv2, aI cy (e 3) 12 sw2, (e 4, .inr (3, [.int (nI 6), .int (nI 11), .ref (e 5), .int (nI (v2 0))])), aI cy (e 5) 66 cd2, (e 6, .inr (3, [.int (nI 20), .int (nI 6), .ref (e 7), .int (nI (v2 1))])), aI cy (e 7) 120 cs2, aI cy (e 8) 8 Pv2, aI cy (e 9) 6 pl2] H := hP
  have hD : va_D A [(a 0, .inr (0, [.ref (a 1), .ref (a 4), .ref (a 6), .ref (a 8), .ref (a 9), .int (nI (v2 2)), .int (nI (v 3)), .int (nI (v 4)), .int (nI (v 5)), .int (nI (v 6)), .int (nI (v 7))])), (a 1, .inr (2, [.ref (a 2), .ref (a 3), .int (nI cl2)])), aI cy (a 2) 144 Wv2, aI cy (a 3) 12 sw, (a 4, .inr (3, [.int (nI 6), .int (nI 11), .ref (a 5), .int (nI (v2 0))])), aI cy (a 5) 66 cd2, (a 6, .inr (3, [.int (nI 20), .int (nI 6), .ref (a 7), .int (nI (v2 1))])), aI cy (a 7) 120 cs2, aI cy (a 8) 8 Pv2, aI cy (a 9) 6 pl, (e 0, .inr (0, [.ref (e 1), .ref (e 4), .ref (e 6), .ref (e 8), .ref (e 9), .int (nI (v2 2)), .int (nI (v2 3)), .int (nI (v2 4)), .int (nI (v2 5)), .int (nI (v2 6)), .int (nI (v2 7))])), (e 1, .inr (2, [.ref (e 2), .ref (e 3), .int (nI cl2)])), aI cy (e 2) 144 Wv2, aI cy (e 3) 12 sw2, (e 4, .inr (3, [.int (nI 6), .int (nI 11), .ref (e 5), .int (nI (v2 0))])), aI cy (e 5) 66 cd2, (e 6, .inr (3, [.int (nI 20), .int (nI 6), .ref (e 7), .int (nI (v2 1))])), aI cy (e 7) 120 cs2, aI cy (e 8) 8 Pv2, aI cy (e 9) 6 pl2] := hD
  refine lv_aload_n hx hb dX0_copyFrom_67 rfl (lv_at hl 0 rfl) ?_
  refine lv_aload_n hx hb dX0_copyFrom_68 rfl (lv_at hl 1 rfl) ?_
  refine va_get (D := g) (ci := 0) (v := .int (nI (v2 3))) (C := RX0) (T := TX0) (N := 11) hx hb hts bgX0 hown hK hP 10 rfl rfl 6 (by decide) (hts _ wd4_1) (fun _ h9 => h9) rfl dX0_copyFrom_69 ?_
  refine va_put (D := g) (ci := 0) (v := .int (nI (v2 3))) (ty := .int) (C := RX0) (T := TX0) (N := 11) hx hb hts bgX0 tyX0 tyX0_ok nmX0 hown hK hP hD hS 0 rfl rfl 6 (by decide) (hts _ wd4_1) (fun _ h9 => h9) rfl (by decide +kernel) rfl rfl (Nat.le_of_ble_eq_true rfl) dX0_copyFrom_72 (fun H locs hP hD hS => ?_)
  have hP : va_P g vwCl [(a 0, .inr (0, [.ref (a 1), .ref (a 4), .ref (a 6), .ref (a 8), .ref (a 9), .int (nI (v2 2)), .int (nI (v2 3)), .int (nI (v 4)), .int (nI (v 5)), .int (nI (v 6)), .int (nI (v 7))])), (a 1, .inr (2, [.ref (a 2), .ref (a 3), .int (nI cl2)])), aI cy (a 2) 144 Wv2, aI cy (a 3) 12 sw, (a 4, .inr (3, [.int (nI 6), .int (nI 11), .ref (a 5), .int (nI (v2 0))])), aI cy (a 5) 66 cd2, (a 6, .inr (3, [.int (nI 20), .int (nI 6), .ref (a 7), .int (nI (v2 1))])), aI cy (a 7) 120 cs2, aI cy (a 8) 8 Pv2, aI cy (a 9) 6 pl, (e 0, .inr (0, [.ref (e 1), .ref (e 4), .ref (e 6), .ref (e 8), .ref (e 9), .int (nI (v2 2)), .int (nI (v2 3)), .int (nI (v2 4)), .int (nI (v2 5)), .int (nI (v2 6)), .int (nI (v2 7))])), (e 1, .inr (2, [.ref (e 2), .ref (e 3), .int (nI cl2)])), aI cy (e 2) 144 Wv2, aI cy (e 3) 12 sw2, (e 4, .inr (3, [.int (nI 6), .int (nI 11), .ref (e 5), .int (nI (v2 0))])), aI cy (e 5) 66 cd2, (e 6, .inr (3, [.int (nI 20), .int (nI 6), .ref (e 7), .int (nI (v2 1))])), aI cy (e 7) 120 cs2, aI cy (e 8) 8 Pv2, aI cy (e 9) 6 pl2] H := hP
  have hD : va_D A [(a 0, .inr (0, [.ref (a 1), .ref (a 4), .ref (a 6), .ref (a 8), .ref (a 9), .int (nI (v2 2)), .int (nI (v2 3)), .int (nI (v 4)), .int (nI (v 5)), .int (nI (v 6)), .int (nI (v 7))])), (a 1, .inr (2, [.ref (a 2), .ref (a 3), .int (nI cl2)])), aI cy (a 2) 144 Wv2, aI cy (a 3) 12 sw, (a 4, .inr (3, [.int (nI 6), .int (nI 11), .ref (a 5), .int (nI (v2 0))])), aI cy (a 5) 66 cd2, (a 6, .inr (3, [.int (nI 20), .int (nI 6), .ref (a 7), .int (nI (v2 1))])), aI cy (a 7) 120 cs2, aI cy (a 8) 8 Pv2, aI cy (a 9) 6 pl, (e 0, .inr (0, [.ref (e 1), .ref (e 4), .ref (e 6), .ref (e 8), .ref (e 9), .int (nI (v2 2)), .int (nI (v2 3)), .int (nI (v2 4)), .int (nI (v2 5)), .int (nI (v2 6)), .int (nI (v2 7))])), (e 1, .inr (2, [.ref (e 2), .ref (e 3), .int (nI cl2)])), aI cy (e 2) 144 Wv2, aI cy (e 3) 12 sw2, (e 4, .inr (3, [.int (nI 6), .int (nI 11), .ref (e 5), .int (nI (v2 0))])), aI cy (e 5) 66 cd2, (e 6, .inr (3, [.int (nI 20), .int (nI 6), .ref (e 7), .int (nI (v2 1))])), aI cy (e 7) 120 cs2, aI cy (e 8) 8 Pv2, aI cy (e 9) 6 pl2] := hD
  refine lv_aload_n hx hb dX0_copyFrom_75 rfl (lv_at hl 0 rfl) ?_
  refine lv_aload_n hx hb dX0_copyFrom_76 rfl (lv_at hl 1 rfl) ?_
  refine va_get (D := g) (ci := 0) (v := .int (nI (v2 4))) (C := RX0) (T := TX0) (N := 11) hx hb hts bgX0 hown hK hP 10 rfl rfl 7 (by decide) (hts _ wd4_2) (fun _ h9 => h9) rfl dX0_copyFrom_77 ?_
  refine va_put (D := g) (ci := 0) (v := .int (nI (v2 4))) (ty := .int) (C := RX0) (T := TX0) (N := 11) hx hb hts bgX0 tyX0 tyX0_ok nmX0 hown hK hP hD hS 0 rfl rfl 7 (by decide) (hts _ wd4_2) (fun _ h9 => h9) rfl (by decide +kernel) rfl rfl (Nat.le_of_ble_eq_true rfl) dX0_copyFrom_80 (fun H locs hP hD hS => ?_)
  have hP : va_P g vwCl [(a 0, .inr (0, [.ref (a 1), .ref (a 4), .ref (a 6), .ref (a 8), .ref (a 9), .int (nI (v2 2)), .int (nI (v2 3)), .int (nI (v2 4)), .int (nI (v 5)), .int (nI (v 6)), .int (nI (v 7))])), (a 1, .inr (2, [.ref (a 2), .ref (a 3), .int (nI cl2)])), aI cy (a 2) 144 Wv2, aI cy (a 3) 12 sw, (a 4, .inr (3, [.int (nI 6), .int (nI 11), .ref (a 5), .int (nI (v2 0))])), aI cy (a 5) 66 cd2, (a 6, .inr (3, [.int (nI 20), .int (nI 6), .ref (a 7), .int (nI (v2 1))])), aI cy (a 7) 120 cs2, aI cy (a 8) 8 Pv2, aI cy (a 9) 6 pl, (e 0, .inr (0, [.ref (e 1), .ref (e 4), .ref (e 6), .ref (e 8), .ref (e 9), .int (nI (v2 2)), .int (nI (v2 3)), .int (nI (v2 4)), .int (nI (v2 5)), .int (nI (v2 6)), .int (nI (v2 7))])), (e 1, .inr (2, [.ref (e 2), .ref (e 3), .int (nI cl2)])), aI cy (e 2) 144 Wv2, aI cy (e 3) 12 sw2, (e 4, .inr (3, [.int (nI 6), .int (nI 11), .ref (e 5), .int (nI (v2 0))])), aI cy (e 5) 66 cd2, (e 6, .inr (3, [.int (nI 20), .int (nI 6), .ref (e 7), .int (nI (v2 1))])), aI cy (e 7) 120 cs2, aI cy (e 8) 8 Pv2, aI cy (e 9) 6 pl2] H := hP
  have hD : va_D A [(a 0, .inr (0, [.ref (a 1), .ref (a 4), .ref (a 6), .ref (a 8), .ref (a 9), .int (nI (v2 2)), .int (nI (v2 3)), .int (nI (v2 4)), .int (nI (v 5)), .int (nI (v 6)), .int (nI (v 7))])), (a 1, .inr (2, [.ref (a 2), .ref (a 3), .int (nI cl2)])), aI cy (a 2) 144 Wv2, aI cy (a 3) 12 sw, (a 4, .inr (3, [.int (nI 6), .int (nI 11), .ref (a 5), .int (nI (v2 0))])), aI cy (a 5) 66 cd2, (a 6, .inr (3, [.int (nI 20), .int (nI 6), .ref (a 7), .int (nI (v2 1))])), aI cy (a 7) 120 cs2, aI cy (a 8) 8 Pv2, aI cy (a 9) 6 pl, (e 0, .inr (0, [.ref (e 1), .ref (e 4), .ref (e 6), .ref (e 8), .ref (e 9), .int (nI (v2 2)), .int (nI (v2 3)), .int (nI (v2 4)), .int (nI (v2 5)), .int (nI (v2 6)), .int (nI (v2 7))])), (e 1, .inr (2, [.ref (e 2), .ref (e 3), .int (nI cl2)])), aI cy (e 2) 144 Wv2, aI cy (e 3) 12 sw2, (e 4, .inr (3, [.int (nI 6), .int (nI 11), .ref (e 5), .int (nI (v2 0))])), aI cy (e 5) 66 cd2, (e 6, .inr (3, [.int (nI 20), .int (nI 6), .ref (e 7), .int (nI (v2 1))])), aI cy (e 7) 120 cs2, aI cy (e 8) 8 Pv2, aI cy (e 9) 6 pl2] := hD
  refine lv_aload_n hx hb dX0_copyFrom_83 rfl (lv_at hl 0 rfl) ?_
  refine lv_aload_n hx hb dX0_copyFrom_84 rfl (lv_at hl 1 rfl) ?_
  refine va_get (D := g) (ci := 0) (v := .int (nI (v2 5))) (C := RX0) (T := TX0) (N := 11) hx hb hts bgX0 hown hK hP 10 rfl rfl 8 (by decide) (hts _ wd4_3) (fun _ h9 => h9) rfl dX0_copyFrom_85 ?_
  refine va_put (D := g) (ci := 0) (v := .int (nI (v2 5))) (ty := .int) (C := RX0) (T := TX0) (N := 11) hx hb hts bgX0 tyX0 tyX0_ok nmX0 hown hK hP hD hS 0 rfl rfl 8 (by decide) (hts _ wd4_3) (fun _ h9 => h9) rfl (by decide +kernel) rfl rfl (Nat.le_of_ble_eq_true rfl) dX0_copyFrom_88 (fun H locs hP hD hS => ?_)
  have hP : va_P g vwCl [(a 0, .inr (0, [.ref (a 1), .ref (a 4), .ref (a 6), .ref (a 8), .ref (a 9), .int (nI (v2 2)), .int (nI (v2 3)), .int (nI (v2 4)), .int (nI (v2 5)), .int (nI (v 6)), .int (nI (v 7))])), (a 1, .inr (2, [.ref (a 2), .ref (a 3), .int (nI cl2)])), aI cy (a 2) 144 Wv2, aI cy (a 3) 12 sw, (a 4, .inr (3, [.int (nI 6), .int (nI 11), .ref (a 5), .int (nI (v2 0))])), aI cy (a 5) 66 cd2, (a 6, .inr (3, [.int (nI 20), .int (nI 6), .ref (a 7), .int (nI (v2 1))])), aI cy (a 7) 120 cs2, aI cy (a 8) 8 Pv2, aI cy (a 9) 6 pl, (e 0, .inr (0, [.ref (e 1), .ref (e 4), .ref (e 6), .ref (e 8), .ref (e 9), .int (nI (v2 2)), .int (nI (v2 3)), .int (nI (v2 4)), .int (nI (v2 5)), .int (nI (v2 6)), .int (nI (v2 7))])), (e 1, .inr (2, [.ref (e 2), .ref (e 3), .int (nI cl2)])), aI cy (e 2) 144 Wv2, aI cy (e 3) 12 sw2, (e 4, .inr (3, [.int (nI 6), .int (nI 11), .ref (e 5), .int (nI (v2 0))])), aI cy (e 5) 66 cd2, (e 6, .inr (3, [.int (nI 20), .int (nI 6), .ref (e 7), .int (nI (v2 1))])), aI cy (e 7) 120 cs2, aI cy (e 8) 8 Pv2, aI cy (e 9) 6 pl2] H := hP
  have hD : va_D A [(a 0, .inr (0, [.ref (a 1), .ref (a 4), .ref (a 6), .ref (a 8), .ref (a 9), .int (nI (v2 2)), .int (nI (v2 3)), .int (nI (v2 4)), .int (nI (v2 5)), .int (nI (v 6)), .int (nI (v 7))])), (a 1, .inr (2, [.ref (a 2), .ref (a 3), .int (nI cl2)])), aI cy (a 2) 144 Wv2, aI cy (a 3) 12 sw, (a 4, .inr (3, [.int (nI 6), .int (nI 11), .ref (a 5), .int (nI (v2 0))])), aI cy (a 5) 66 cd2, (a 6, .inr (3, [.int (nI 20), .int (nI 6), .ref (a 7), .int (nI (v2 1))])), aI cy (a 7) 120 cs2, aI cy (a 8) 8 Pv2, aI cy (a 9) 6 pl, (e 0, .inr (0, [.ref (e 1), .ref (e 4), .ref (e 6), .ref (e 8), .ref (e 9), .int (nI (v2 2)), .int (nI (v2 3)), .int (nI (v2 4)), .int (nI (v2 5)), .int (nI (v2 6)), .int (nI (v2 7))])), (e 1, .inr (2, [.ref (e 2), .ref (e 3), .int (nI cl2)])), aI cy (e 2) 144 Wv2, aI cy (e 3) 12 sw2, (e 4, .inr (3, [.int (nI 6), .int (nI 11), .ref (e 5), .int (nI (v2 0))])), aI cy (e 5) 66 cd2, (e 6, .inr (3, [.int (nI 20), .int (nI 6), .ref (e 7), .int (nI (v2 1))])), aI cy (e 7) 120 cs2, aI cy (e 8) 8 Pv2, aI cy (e 9) 6 pl2] := hD
  refine lv_aload_n hx hb dX0_copyFrom_91 rfl (lv_at hl 0 rfl) ?_
  refine lv_aload_n hx hb dX0_copyFrom_92 rfl (lv_at hl 1 rfl) ?_
  refine va_get (D := g) (ci := 0) (v := .int (nI (v2 6))) (C := RX0) (T := TX0) (N := 11) hx hb hts bgX0 hown hK hP 10 rfl rfl 9 (by decide) (hts _ wd4_4) (fun _ h9 => h9) rfl dX0_copyFrom_93 ?_
  refine va_put (D := g) (ci := 0) (v := .int (nI (v2 6))) (ty := .int) (C := RX0) (T := TX0) (N := 11) hx hb hts bgX0 tyX0 tyX0_ok nmX0 hown hK hP hD hS 0 rfl rfl 9 (by decide) (hts _ wd4_4) (fun _ h9 => h9) rfl (by decide +kernel) rfl rfl (Nat.le_of_ble_eq_true rfl) dX0_copyFrom_96 (fun H locs hP hD hS => ?_)
  have hP : va_P g vwCl [(a 0, .inr (0, [.ref (a 1), .ref (a 4), .ref (a 6), .ref (a 8), .ref (a 9), .int (nI (v2 2)), .int (nI (v2 3)), .int (nI (v2 4)), .int (nI (v2 5)), .int (nI (v2 6)), .int (nI (v 7))])), (a 1, .inr (2, [.ref (a 2), .ref (a 3), .int (nI cl2)])), aI cy (a 2) 144 Wv2, aI cy (a 3) 12 sw, (a 4, .inr (3, [.int (nI 6), .int (nI 11), .ref (a 5), .int (nI (v2 0))])), aI cy (a 5) 66 cd2, (a 6, .inr (3, [.int (nI 20), .int (nI 6), .ref (a 7), .int (nI (v2 1))])), aI cy (a 7) 120 cs2, aI cy (a 8) 8 Pv2, aI cy (a 9) 6 pl, (e 0, .inr (0, [.ref (e 1), .ref (e 4), .ref (e 6), .ref (e 8), .ref (e 9), .int (nI (v2 2)), .int (nI (v2 3)), .int (nI (v2 4)), .int (nI (v2 5)), .int (nI (v2 6)), .int (nI (v2 7))])), (e 1, .inr (2, [.ref (e 2), .ref (e 3), .int (nI cl2)])), aI cy (e 2) 144 Wv2, aI cy (e 3) 12 sw2, (e 4, .inr (3, [.int (nI 6), .int (nI 11), .ref (e 5), .int (nI (v2 0))])), aI cy (e 5) 66 cd2, (e 6, .inr (3, [.int (nI 20), .int (nI 6), .ref (e 7), .int (nI (v2 1))])), aI cy (e 7) 120 cs2, aI cy (e 8) 8 Pv2, aI cy (e 9) 6 pl2] H := hP
  have hD : va_D A [(a 0, .inr (0, [.ref (a 1), .ref (a 4), .ref (a 6), .ref (a 8), .ref (a 9), .int (nI (v2 2)), .int (nI (v2 3)), .int (nI (v2 4)), .int (nI (v2 5)), .int (nI (v2 6)), .int (nI (v 7))])), (a 1, .inr (2, [.ref (a 2), .ref (a 3), .int (nI cl2)])), aI cy (a 2) 144 Wv2, aI cy (a 3) 12 sw, (a 4, .inr (3, [.int (nI 6), .int (nI 11), .ref (a 5), .int (nI (v2 0))])), aI cy (a 5) 66 cd2, (a 6, .inr (3, [.int (nI 20), .int (nI 6), .ref (a 7), .int (nI (v2 1))])), aI cy (a 7) 120 cs2, aI cy (a 8) 8 Pv2, aI cy (a 9) 6 pl, (e 0, .inr (0, [.ref (e 1), .ref (e 4), .ref (e 6), .ref (e 8), .ref (e 9), .int (nI (v2 2)), .int (nI (v2 3)), .int (nI (v2 4)), .int (nI (v2 5)), .int (nI (v2 6)), .int (nI (v2 7))])), (e 1, .inr (2, [.ref (e 2), .ref (e 3), .int (nI cl2)])), aI cy (e 2) 144 Wv2, aI cy (e 3) 12 sw2, (e 4, .inr (3, [.int (nI 6), .int (nI 11), .ref (e 5), .int (nI (v2 0))])), aI cy (e 5) 66 cd2, (e 6, .inr (3, [.int (nI 20), .int (nI 6), .ref (e 7), .int (nI (v2 1))])), aI cy (e 7) 120 cs2, aI cy (e 8) 8 Pv2, aI cy (e 9) 6 pl2] := hD
  refine lv_aload_n hx hb dX0_copyFrom_99 rfl (lv_at hl 0 rfl) ?_
  refine lv_aload_n hx hb dX0_copyFrom_100 rfl (lv_at hl 1 rfl) ?_
  refine va_get (D := g) (ci := 0) (v := .int (nI (v2 7))) (C := RX0) (T := TX0) (N := 11) hx hb hts bgX0 hown hK hP 10 rfl rfl 10 (by decide) (hts _ wd4_5) (fun _ h9 => h9) rfl dX0_copyFrom_101 ?_
  refine va_put (D := g) (ci := 0) (v := .int (nI (v2 7))) (ty := .int) (C := RX0) (T := TX0) (N := 11) hx hb hts bgX0 tyX0 tyX0_ok nmX0 hown hK hP hD hS 0 rfl rfl 10 (by decide) (hts _ wd4_5) (fun _ h9 => h9) rfl (by decide +kernel) rfl rfl (Nat.le_of_ble_eq_true rfl) dX0_copyFrom_104 (fun H locs hP hD hS => ?_)
  have hP : va_P g vwCl [(a 0, .inr (0, [.ref (a 1), .ref (a 4), .ref (a 6), .ref (a 8), .ref (a 9), .int (nI (v2 2)), .int (nI (v2 3)), .int (nI (v2 4)), .int (nI (v2 5)), .int (nI (v2 6)), .int (nI (v2 7))])), (a 1, .inr (2, [.ref (a 2), .ref (a 3), .int (nI cl2)])), aI cy (a 2) 144 Wv2, aI cy (a 3) 12 sw, (a 4, .inr (3, [.int (nI 6), .int (nI 11), .ref (a 5), .int (nI (v2 0))])), aI cy (a 5) 66 cd2, (a 6, .inr (3, [.int (nI 20), .int (nI 6), .ref (a 7), .int (nI (v2 1))])), aI cy (a 7) 120 cs2, aI cy (a 8) 8 Pv2, aI cy (a 9) 6 pl, (e 0, .inr (0, [.ref (e 1), .ref (e 4), .ref (e 6), .ref (e 8), .ref (e 9), .int (nI (v2 2)), .int (nI (v2 3)), .int (nI (v2 4)), .int (nI (v2 5)), .int (nI (v2 6)), .int (nI (v2 7))])), (e 1, .inr (2, [.ref (e 2), .ref (e 3), .int (nI cl2)])), aI cy (e 2) 144 Wv2, aI cy (e 3) 12 sw2, (e 4, .inr (3, [.int (nI 6), .int (nI 11), .ref (e 5), .int (nI (v2 0))])), aI cy (e 5) 66 cd2, (e 6, .inr (3, [.int (nI 20), .int (nI 6), .ref (e 7), .int (nI (v2 1))])), aI cy (e 7) 120 cs2, aI cy (e 8) 8 Pv2, aI cy (e 9) 6 pl2] H := hP
  have hD : va_D A [(a 0, .inr (0, [.ref (a 1), .ref (a 4), .ref (a 6), .ref (a 8), .ref (a 9), .int (nI (v2 2)), .int (nI (v2 3)), .int (nI (v2 4)), .int (nI (v2 5)), .int (nI (v2 6)), .int (nI (v2 7))])), (a 1, .inr (2, [.ref (a 2), .ref (a 3), .int (nI cl2)])), aI cy (a 2) 144 Wv2, aI cy (a 3) 12 sw, (a 4, .inr (3, [.int (nI 6), .int (nI 11), .ref (a 5), .int (nI (v2 0))])), aI cy (a 5) 66 cd2, (a 6, .inr (3, [.int (nI 20), .int (nI 6), .ref (a 7), .int (nI (v2 1))])), aI cy (a 7) 120 cs2, aI cy (a 8) 8 Pv2, aI cy (a 9) 6 pl, (e 0, .inr (0, [.ref (e 1), .ref (e 4), .ref (e 6), .ref (e 8), .ref (e 9), .int (nI (v2 2)), .int (nI (v2 3)), .int (nI (v2 4)), .int (nI (v2 5)), .int (nI (v2 6)), .int (nI (v2 7))])), (e 1, .inr (2, [.ref (e 2), .ref (e 3), .int (nI cl2)])), aI cy (e 2) 144 Wv2, aI cy (e 3) 12 sw2, (e 4, .inr (3, [.int (nI 6), .int (nI 11), .ref (e 5), .int (nI (v2 0))])), aI cy (e 5) 66 cd2, (e 6, .inr (3, [.int (nI 20), .int (nI 6), .ref (e 7), .int (nI (v2 1))])), aI cy (e 7) 120 cs2, aI cy (e 8) 8 Pv2, aI cy (e 9) 6 pl2] := hD
  exact wr_v () rfl trivial hP hS hx hb hr dX0_copyFrom_107 hlk
set_option maxHeartbeats 4000000 in
set_option maxRecDepth 100000 in
theorem c_X0_helpOf2 (l : Launch) (g : va_G) (cy : Nat → ClassId) (sz : Nat) (a : Nat → Nat) (σ : Nat → Nat) (b : Nat → Nat → Int32) (bd : Nat) (v3 : Nat) (v4 : Nat) (v5 : Nat) (s9 : Nat) (c : Nat) (hwf : WF bd σ) (hbr : BR σ b) (hs : s9 < σ 1) (hc9 : c < 12) : Met l yX0_helpOf (Cond.code yX0_helpOf cX0_helpOf 4 (some .int) :: wsL_law) ({ frames := 1, cells := 0, slots := 0, locals := 24 } : Room) (va_Pc [.ref (a 0), .int (nI s9), .int (nI c)] (pr g cy [(a 0, .inr (0, [.ref (a 1), .ref (a 4), .ref (a 6), .ref (a 8), .ref (a 9), .int (nI (σ 2)), .int (nI v3), .int (nI v4), .int (nI v5), .int (nI (σ 6)), .int (nI (σ 7))])), (a 1, .inr (2, [.ref (a 2), .ref (a 3), .int (nI (cmk σ))])), aI cy (a 2) 144 (wv σ), aI cy (a 3) 12 (b 1), (a 4, .inr (3, [.int (nI 6), .int (nI 11), .ref (a 5), .int (nI (σ 0))])), aI cy (a 5) 66 (b 2), (a 6, .inr (3, [.int (nI 20), .int (nI 6), .ref (a 7), .int (nI (σ 1))])), aI cy (a 7) 120 (b 3), aI cy (a 9) 6 (b 5)] sz)) (rd_Q (some (.int (nI (hlp σ s9 c))))) 0 0 (nF) := by
  refine mt_of (cc := cX0_helpOf) (maxL := 4) (ret := (some .int)) (by decide +kernel) (Nat.le_of_ble_eq_true rfl) ?_
  intro pX eX s mX below meth cX ls A hx hb hr hml hown hts hlk hin hsz hAe hA hP hD hK hX hl
  have hl : lv_has ls 4 [(0, .ref (a 0)), (1, .int (nI s9)), (2, .int (nI c))] := hl
  have hS : va_S A s.heap s.heap [] := va_S.rf
  have hn0 := hwf.n0
  have hn1 := hwf.n1
  have hh2 := hwf.h2
  have hsb := hwf.sb hs
  refine lv_aload_n hx hb dX0_helpOf_0 rfl (lv_at hl 0 rfl) ?_
  refine va_get (D := g) (ci := 0) (v := .ref (a 1)) (C := RX0) (T := TX0) (N := 11) hx hb hts bgX0 hown hK hP 0 rfl rfl 0 (by decide) (hts _ wd2_8) (fun _ h9 => h9) rfl dX0_helpOf_1 ?_
  refine lv_aload_n hx hb dX0_helpOf_4 rfl (lv_at hl 0 rfl) ?_
  refine va_get (D := g) (ci := 0) (v := .ref (a 6)) (C := RX0) (T := TX0) (N := 11) hx hb hts bgX0 hown hK hP 0 rfl rfl 2 (by decide) (hts _ wd2_13) (fun _ h9 => h9) rfl dX0_helpOf_5 ?_
  refine lv_iload_n hx hb dX0_helpOf_8 rfl (lv_at hl 1 rfl) ?_
  refine lv_iconst (v := (nI 1)) hx hb dX0_helpOf_9 (by decide) ?_
  refine rd_call (va_runV (As := [.int (nI s9), .int (nI 1)]) (rest := [.ref (a 1)]) ⟨hx, hb, hml, hown, hts⟩ (c_X3_get l g cy (a 6) (a 7) s.heap.size 20 6 120 (b 3) (σ 1) (nI s9) 1 (by omega) (by omega) (by omega) (by omega) (by omega) (by omega)) ⟨(cB 2 hts wd13_23 wd2_11 wd13_20 rfl rfl (by decide +kernel) ⟨Nat.le_of_ble_eq_true rfl, Nat.le_of_ble_eq_true rfl⟩), hts _ wd13_21, hts _ wd13_22⟩ (pv hK hP hD hS hA hX [6, 7] rfl rfl 3 6 rfl rfl) rfl rfl hl.1 rfl (lv_room (Nat.le_of_ble_eq_true rfl)) dX0_helpOf_10 ⟨Nat.zero_le _, Nat.zero_le _⟩) ?_
  refine ti (show getR (b 3) 6 (σ 1) (nI s9) 1 = (nI (sg σ s9 1)) from (hbr.gs hn1 (by omega) (by decide))) ?_
  refine lv_iload_n hx hb dX0_helpOf_13 rfl (lv_at hl 2 rfl) ?_
  refine lv_iconst (v := (nI 1)) hx hb dX0_helpOf_14 (by decide) ?_
  refine rd_call (va_runV (As := [.int (nI (sg σ s9 1)), .int (nI c), .int (nI 1)]) (rest := []) ⟨hx, hb, hml, hown, hts⟩ (c_X2_isWithin l g cy (a 1) (a 2) (a 3) s.heap.size σ (wv σ) (b 1) (cmk σ) (sg σ s9 1) c 1 (fun _ _ => rfl) (by omega) (by omega) (by omega)) ⟨(cB 3 hts wd15_18 wd2_7 wd15_15 rfl rfl (by decide +kernel) ⟨Nat.le_of_ble_eq_true rfl, Nat.le_of_ble_eq_true rfl⟩), hts _ wd15_16, hts _ wd15_17⟩ (pv hK hP hD hS hA hX [1, 2, 3] rfl rfl 2 1 rfl rfl) rfl rfl hl.1 rfl (lv_room (Nat.le_of_ble_eq_true rfl)) dX0_helpOf_15 ⟨Nat.zero_le _, Nat.zero_le _⟩) ?_
  show W _ _ _ _ _ _ _ _ _ _ _ _ _ _ _ (F0 mX 18 ls [.int (bI (rch σ (sg σ s9 1) c 1))])
  refine lv_if_eq (tgt := 25) hx hb dX0_helpOf_18 (by decide) (fun c_18 => ?_) (fun c_18 => ?_)
  · have c_18 := (bI_eq0.mp c_18)
    refine lv_iconst (v := (nI 0)) hx hb dX0_helpOf_25 (by decide) ?_
    refine lv_istore_n (lv' := [(3, .int (nI 0)), (0, .ref (a 0)), (1, .int (nI s9)), (2, .int (nI c))]) hx hb dX0_helpOf_26 rfl hl (by decide) rfl (fun ls hl => ?_)
    refine lv_iconst (v := (nI 1)) hx hb dX0_helpOf_27 (by decide) ?_
    refine lv_aload_n hx hb dX0_helpOf_28 rfl (lv_at hl 1 rfl) ?_
    refine va_get (D := g) (ci := 0) (v := .ref (a 6)) (C := RX0) (T := TX0) (N := 11) hx hb hts bgX0 hown hK hP 0 rfl rfl 2 (by decide) (hts _ wd2_13) (fun _ h9 => h9) rfl dX0_helpOf_29 ?_
    refine lv_iload_n hx hb dX0_helpOf_32 rfl (lv_at hl 2 rfl) ?_
    refine lv_iconst (v := (nI 4)) hx hb dX0_helpOf_33 (by decide) ?_
    refine rd_call (va_runV (As := [.int (nI s9), .int (nI 4)]) (rest := [.int (nI 1)]) ⟨hx, hb, hml, hown, hts⟩ (c_X3_get l g cy (a 6) (a 7) s.heap.size 20 6 120 (b 3) (σ 1) (nI s9) 4 (by omega) (by omega) (by omega) (by omega) (by omega) (by omega)) ⟨(cB 2 hts wd13_23 wd2_11 wd13_20 rfl rfl (by decide +kernel) ⟨Nat.le_of_ble_eq_true rfl, Nat.le_of_ble_eq_true rfl⟩), hts _ wd13_21, hts _ wd13_22⟩ (pv hK hP hD hS hA hX [6, 7] rfl rfl 3 6 rfl rfl) rfl rfl hl.1 rfl (lv_room (Nat.le_of_ble_eq_true rfl)) dX0_helpOf_34 ⟨Nat.zero_le _, Nat.zero_le _⟩) ?_
    refine ti (show getR (b 3) 6 (σ 1) (nI s9) 4 = (nI (sg σ s9 4)) from (hbr.gs hn1 (by omega) (by decide))) ?_
    refine lv_iadd hx hb dX0_helpOf_37 ?_
    refine ti (nI_add 1 (sg σ s9 4)) ?_
    refine lv_iload_n hx hb dX0_helpOf_38 rfl (lv_at hl 0 rfl) ?_
    refine lv_iadd hx hb dX0_helpOf_39 ?_
    refine ti (nI_add (1 + (sg σ s9 4)) 0) ?_
    exact rd_i (congrArg nI (by simp [hlp, c_18])) hx hb hr dX0_helpOf_40 hlk
  · have c_18 := (bI_ne0.mp c_18)
    refine lv_iconst (v := (nI 1)) hx hb dX0_helpOf_21 (by decide) ?_
    refine lv_goto (tgt := 26) hx hb dX0_helpOf_22 (by decide) ?_
    refine lv_istore_n (lv' := [(3, .int (nI 1)), (0, .ref (a 0)), (1, .int (nI s9)), (2, .int (nI c))]) hx hb dX0_helpOf_26 rfl hl (by decide) rfl (fun ls hl => ?_)
    refine lv_iconst (v := (nI 1)) hx hb dX0_helpOf_27 (by decide) ?_
    refine lv_aload_n hx hb dX0_helpOf_28 rfl (lv_at hl 1 rfl) ?_
    refine va_get (D := g) (ci := 0) (v := .ref (a 6)) (C := RX0) (T := TX0) (N := 11) hx hb hts bgX0 hown hK hP 0 rfl rfl 2 (by decide) (hts _ wd2_13) (fun _ h9 => h9) rfl dX0_helpOf_29 ?_
    refine lv_iload_n hx hb dX0_helpOf_32 rfl (lv_at hl 2 rfl) ?_
    refine lv_iconst (v := (nI 4)) hx hb dX0_helpOf_33 (by decide) ?_
    refine rd_call (va_runV (As := [.int (nI s9), .int (nI 4)]) (rest := [.int (nI 1)]) ⟨hx, hb, hml, hown, hts⟩ (c_X3_get l g cy (a 6) (a 7) s.heap.size 20 6 120 (b 3) (σ 1) (nI s9) 4 (by omega) (by omega) (by omega) (by omega) (by omega) (by omega)) ⟨(cB 2 hts wd13_23 wd2_11 wd13_20 rfl rfl (by decide +kernel) ⟨Nat.le_of_ble_eq_true rfl, Nat.le_of_ble_eq_true rfl⟩), hts _ wd13_21, hts _ wd13_22⟩ (pv hK hP hD hS hA hX [6, 7] rfl rfl 3 6 rfl rfl) rfl rfl hl.1 rfl (lv_room (Nat.le_of_ble_eq_true rfl)) dX0_helpOf_34 ⟨Nat.zero_le _, Nat.zero_le _⟩) ?_
    refine ti (show getR (b 3) 6 (σ 1) (nI s9) 4 = (nI (sg σ s9 4)) from (hbr.gs hn1 (by omega) (by decide))) ?_
    refine lv_iadd hx hb dX0_helpOf_37 ?_
    refine ti (nI_add 1 (sg σ s9 4)) ?_
    refine lv_iload_n hx hb dX0_helpOf_38 rfl (lv_at hl 0 rfl) ?_
    refine lv_iadd hx hb dX0_helpOf_39 ?_
    refine ti (nI_add (1 + (sg σ s9 4)) 1) ?_
    exact rd_i (congrArg nI (by simp [hlp, c_18])) hx hb hr dX0_helpOf_40 hlk
set_option maxHeartbeats 4000000 in
set_option maxRecDepth 100000 in
theorem c_X0_shareBy2 (l : Launch) (g : va_G) (cy : Nat → ClassId) (sz : Nat) (a : Nat → Nat) (σ : Nat → Nat) (b : Nat → Nat → Int32) (bd : Nat) (v3 : Nat) (v4 : Nat) (v5 : Nat) (d : Nat) (ho : Nat) (fi : Nat) (c : Nat) (f : Nat) (hwf : WF bd σ) (hbr : BR σ b) (hd : d < σ 0) (hho : ho = mk (hon σ d) (σ 1)) (hfi : fi < 8) (hc9 : c < 12) (hf9 : f < 8) : Met l yX0_shareBy (Cond.code yX0_shareBy cX0_shareBy 10 (some .int) :: wsL_law) ({ frames := 2, cells := 0, slots := 0, locals := 47 } : Room) (va_Pc [.ref (a 0), .int (nI d), .int (nI ho), .int (nI fi), .int (nI c), .int (nI f)] (pr g cy [(a 0, .inr (0, [.ref (a 1), .ref (a 4), .ref (a 6), .ref (a 8), .ref (a 9), .int (nI (σ 2)), .int (nI v3), .int (nI v4), .int (nI v5), .int (nI (σ 6)), .int (nI (σ 7))])), (a 1, .inr (2, [.ref (a 2), .ref (a 3), .int (nI (cmk σ))])), aI cy (a 2) 144 (wv σ), aI cy (a 3) 12 (b 1), (a 4, .inr (3, [.int (nI 6), .int (nI 11), .ref (a 5), .int (nI (σ 0))])), aI cy (a 5) 66 (b 2), (a 6, .inr (3, [.int (nI 20), .int (nI 6), .ref (a 7), .int (nI (σ 1))])), aI cy (a 7) 120 (b 3), aI cy (a 9) 6 (b 5)] sz)) (rd_Q (some (.int (nI (shr σ d fi c f))))) 0 0 (nF) := by
  refine mt_of (cc := cX0_shareBy) (maxL := 10) (ret := (some .int)) (by decide +kernel) (Nat.le_of_ble_eq_true rfl) ?_
  intro pX eX s mX below meth cX ls A hx hb hr hml hown hts hlk hin hsz hAe hA hP hD hK hX hl
  have hl : lv_has ls 10 [(0, .ref (a 0)), (1, .int (nI d)), (2, .int (nI ho)), (3, .int (nI fi)), (4, .int (nI c)), (5, .int (nI f))] := hl
  have hS : va_S A s.heap s.heap [] := va_S.rf
  have hn0 := hwf.n0
  have hn1 := hwf.n1
  have hh2 := hwf.h2
  have hdb := hwf.db hd
  have hho9 : ho < 2 ^ 20 := by rw [hho]; exact Nat.lt_of_lt_of_le (mk_lt _ (σ 1)) (Nat.pow_le_pow_right (by decide) hn1)
  have hA9 := hwf.hA d c
  have hO9 := hwf.hO d fi c f
  refine jn_i (pcj := 11) (ls := ls) (st := []) (fun v9 => v9 = (nI (if f = fi then 3 else 0))) ?_ (fun jn11 => ?_)
  · intro v9 hv9
    subst hv9
    refine lv_istore (lv' := [(6, .int (nI (if f = fi then 3 else 0))), (0, .ref (a 0)), (1, .int (nI d)), (2, .int (nI ho)), (3, .int (nI fi)), (4, .int (nI c)), (5, .int (nI f))]) hx hb dX0_shareBy_11 hl (by decide) rfl (fun ls hl => ?_)
    refine lv_iconst (v := (nI 3)) hx hb dX0_shareBy_13 (by decide) ?_
    refine lv_istore (lv' := [(7, .int (nI 3)), (6, .int (nI (if f = fi then 3 else 0))), (0, .ref (a 0)), (1, .int (nI d)), (2, .int (nI ho)), (3, .int (nI fi)), (4, .int (nI c)), (5, .int (nI f))]) hx hb dX0_shareBy_14 hl (by decide) rfl (fun ls hl => ?_)
    refine lv_iconst (v := (nI 0)) hx hb dX0_shareBy_16 (by decide) ?_
    refine lv_istore (lv' := [(8, .int (nI 0)), (7, .int (nI 3)), (6, .int (nI (if f = fi then 3 else 0))), (0, .ref (a 0)), (1, .int (nI d)), (2, .int (nI ho)), (3, .int (nI fi)), (4, .int (nI c)), (5, .int (nI f))]) hx hb dX0_shareBy_17 hl (by decide) rfl (fun ls hl => ?_)
    have hl : lv_has ls 10 [(8, .int (nI 0)), (7, .int (nI 3)), (6, .int (nI ((if f = fi then 3 else 0) + sm (fun s => if hon σ d s && decide (sg σ s 0 = f) then hlp σ s c else 0) 0))), (0, .ref (a 0)), (1, .int (nI d)), (2, .int (nI ho)), (3, .int (nI fi)), (4, .int (nI c)), (5, .int (nI f))] := by rw [← show (nI (if f = fi then 3 else 0)) = (nI ((if f = fi then 3 else 0) + sm (fun s => if hon σ d s && decide (sg σ s 0 = f) then hlp σ s c else 0) 0)) from rfl]; exact hl
    have hl : lv_has ls 10 [(8, .int (nI 0)), (7, .int (nI (3 + sm (fun s => if hon σ d s then hlp σ s c else 0) 0))), (6, .int (nI ((if f = fi then 3 else 0) + sm (fun s => if hon σ d s && decide (sg σ s 0 = f) then hlp σ s c else 0) 0))), (0, .ref (a 0)), (1, .int (nI d)), (2, .int (nI ho)), (3, .int (nI fi)), (4, .int (nI c)), (5, .int (nI f))] := by rw [← show (nI 3) = (nI (3 + sm (fun s => if hon σ d s then hlp σ s c else 0) 0)) from rfl]; exact hl
    refine lp_rd (σ := (Nat)) (fun x9 ls9 => lv_has ls9 10 [(0, .ref (a 0)), (1, .int (nI d)), (2, .int (nI ho)), (3, .int (nI fi)), (4, .int (nI c)), (5, .int (nI f)), (6, .int (nI ((if f = fi then 3 else 0) + sm (fun s => if hon σ d s && decide (sg σ s 0 = f) then hlp σ s c else 0) x9))), (7, .int (nI (3 + sm (fun s => if hon σ d s then hlp σ s c else 0) x9))), (8, .int (nI x9))] ∧ (x9 ≤ σ 1)) (fun x9 => σ 1 - x9) (0) ⟨lv_sub hl [3, 4, 5, 6, 7, 8, 2, 1, 0] rfl, (by omega)⟩ ?_
    rintro i ls ⟨hl, hi⟩ ih19
    try dsimp only at hl hi ih19
    refine lv_iload hx hb dX0_shareBy_19 (lv_at hl 8 rfl) ?_
    refine lv_aload_n hx hb dX0_shareBy_21 rfl (lv_at hl 0 rfl) ?_
    refine va_get (D := g) (ci := 0) (v := .ref (a 6)) (C := RX0) (T := TX0) (N := 11) hx hb hts bgX0 hown hK hP 0 rfl rfl 2 (by decide) (hts _ wd2_13) (fun _ h9 => h9) rfl dX0_shareBy_22 ?_
    refine rd_call (va_runV (As := []) (rest := [.int (nI i)]) ⟨hx, hb, hml, hown, hts⟩ (c_X3_count l g cy (a 6) (a 7) s.heap.size 20 6 120 (b 3) (σ 1) ) ⟨(cB 0 hts wd13_15 wd2_11 wd13_12 rfl rfl (by decide +kernel) ⟨Nat.le_of_ble_eq_true rfl, Nat.le_of_ble_eq_true rfl⟩), hts _ wd13_13, hts _ wd13_14⟩ (pv hK hP hD hS hA hX [6, 7] rfl rfl 3 6 rfl rfl) rfl rfl hl.1 rfl (lv_room (Nat.le_of_ble_eq_true rfl)) dX0_shareBy_25 ⟨Nat.zero_le _, Nat.zero_le _⟩) ?_
    show W _ _ _ _ _ _ _ _ _ _ _ _ _ _ _ (F0 mX 28 ls [.int (nI (σ 1)), .int (nI i)])
    refine lv_icmp_ge (tgt := 93) hx hb dX0_shareBy_28 (by decide) (fun c_28 => ?_) (fun c_28 => ?_)
    · have c_28 := (nc_le (by omega) (by omega) c_28)
      have hN9 := hwf.hN d c (σ 1) (Nat.le_refl _)
      have e9 : i = σ 1 := by omega
      subst e9
      have hmul : dg σ d 4 * hOf σ d fi c f ≤ 20000000 := mul_le_of (show dg σ d 4 ≤ 210000 by omega) hO9 (by decide)
      refine lv_iload hx hb dX0_shareBy_93 (lv_at hl 7 rfl) ?_
      refine lv_if_le (tgt := 116) hx hb dX0_shareBy_95 (by decide) (fun c_95 => ?_) (fun c_95 => ?_)
      · have c_95 := (nz_le' c_95 (by omega))
        exact absurd c_95 (by have := hA9.1; unfold hAll at this; omega)
      · have c_95 := (nz_gt' c_95 (by omega))
        refine lv_aload_n hx hb dX0_shareBy_98 rfl (lv_at hl 0 rfl) ?_
        refine va_get (D := g) (ci := 0) (v := .ref (a 4)) (C := RX0) (T := TX0) (N := 11) hx hb hts bgX0 hown hK hP 0 rfl rfl 1 (by decide) (hts _ wd2_12) (fun _ h9 => h9) rfl dX0_shareBy_99 ?_
        refine lv_iload_n hx hb dX0_shareBy_102 rfl (lv_at hl 1 rfl) ?_
        refine lv_iconst (v := (nI 4)) hx hb dX0_shareBy_103 (by decide) ?_
        refine rd_call (va_runV (As := [.int (nI d), .int (nI 4)]) (rest := []) ⟨hx, hb, hml, hown, hts⟩ (c_X3_get l g cy (a 4) (a 5) s.heap.size 6 11 66 (b 2) (σ 0) (nI d) 4 (by omega) (by omega) (by omega) (by omega) (by omega) (by omega)) ⟨(cB 2 hts wd13_23 wd2_11 wd13_20 rfl rfl (by decide +kernel) ⟨Nat.le_of_ble_eq_true rfl, Nat.le_of_ble_eq_true rfl⟩), hts _ wd13_21, hts _ wd13_22⟩ (pv hK hP hD hS hA hX [4, 5] rfl rfl 3 4 rfl rfl) rfl rfl hl.1 rfl (lv_room (Nat.le_of_ble_eq_true rfl)) dX0_shareBy_104 ⟨Nat.zero_le _, Nat.zero_le _⟩) ?_
        refine ti (show getR (b 2) 11 (σ 0) (nI d) 4 = (nI (dg σ d 4)) from (hbr.gd hn0 (by omega) (by decide))) ?_
        refine lv_iload hx hb dX0_shareBy_107 (lv_at hl 6 rfl) ?_
        refine ti (show (nI ((if f = fi then 3 else 0) + sm (fun s => if hon σ d s && decide (sg σ s 0 = f) then hlp σ s c else 0) (σ 1))) = (nI (hOf σ d fi c f)) from rfl) ?_
        refine lv_imul hx hb dX0_shareBy_109 ?_
        refine ti (pk_mul (dg σ d 4) (hOf σ d fi c f)) ?_
        refine lv_iload hx hb dX0_shareBy_110 (lv_at hl 7 rfl) ?_
        refine ti (show (nI (3 + sm (fun s => if hon σ d s then hlp σ s c else 0) (σ 1))) = (nI (hAll σ d c)) from rfl) ?_
        refine lv_idiv hx hb dX0_shareBy_112 (nI_ne0 (by omega) (by omega)) ?_
        refine ti (pk_div (a := ((dg σ d 4) * (hOf σ d fi c f))) (d := (hAll σ d c)) (by omega) (by omega) (by omega)) ?_
        refine lv_goto (tgt := 117) hx hb dX0_shareBy_113 (by decide) ?_
        exact rd_i rfl hx hb hr dX0_shareBy_117 hlk
    · have c_28 := (nc_nle (by omega) (by omega) c_28)
      have hsb := hwf.sb (show i < σ 1 by omega)
      have hbit : hon σ d i = ho.testBit i := by rw [hho, mk_bit]; simp [show i < σ 1 by omega]
      refine jn_i (pcj := 52) (ls := ls) (st := []) (fun v9 => v9 = (nI (if hon σ d i then hlp σ i c else 0))) ?_ (fun jn52 => ?_)
      · intro v9 hv9
        subst hv9
        refine lv_istore (lv' := [(9, .int (nI (if hon σ d i then hlp σ i c else 0))), (0, .ref (a 0)), (1, .int (nI d)), (2, .int (nI ho)), (3, .int (nI fi)), (4, .int (nI c)), (5, .int (nI f)), (6, .int (nI ((if f = fi then 3 else 0) + sm (fun s => if hon σ d s && decide (sg σ s 0 = f) then hlp σ s c else 0) i))), (7, .int (nI (3 + sm (fun s => if hon σ d s then hlp σ s c else 0) i))), (8, .int (nI i))]) hx hb dX0_shareBy_52 hl (by decide) rfl (fun ls hl => ?_)
        refine lv_iload hx hb dX0_shareBy_54 (lv_at hl 8 rfl) ?_
        refine lv_iload hx hb dX0_shareBy_56 (lv_at hl 0 rfl) ?_
        refine lv_iadd hx hb dX0_shareBy_58 ?_
        refine ti (nI_add (3 + sm (fun s => if hon σ d s then hlp σ s c else 0) i) (if hon σ d i then hlp σ i c else 0)) ?_
        refine lv_istore (lv' := [(7, .int (nI ((3 + sm (fun s => if hon σ d s then hlp σ s c else 0) i) + (if hon σ d i then hlp σ i c else 0)))), (9, .int (nI (if hon σ d i then hlp σ i c else 0))), (0, .ref (a 0)), (1, .int (nI d)), (2, .int (nI ho)), (3, .int (nI fi)), (4, .int (nI c)), (5, .int (nI f)), (6, .int (nI ((if f = fi then 3 else 0) + sm (fun s => if hon σ d s && decide (sg σ s 0 = f) then hlp σ s c else 0) i))), (8, .int (nI i))]) hx hb dX0_shareBy_59 hl (by decide) rfl (fun ls hl => ?_)
        refine lv_iload hx hb dX0_shareBy_61 (lv_at hl 8 rfl) ?_
        refine lv_aload_n hx hb dX0_shareBy_63 rfl (lv_at hl 2 rfl) ?_
        refine va_get (D := g) (ci := 0) (v := .ref (a 6)) (C := RX0) (T := TX0) (N := 11) hx hb hts bgX0 hown hK hP 0 rfl rfl 2 (by decide) (hts _ wd2_13) (fun _ h9 => h9) rfl dX0_shareBy_64 ?_
        refine lv_iload hx hb dX0_shareBy_67 (lv_at hl 9 rfl) ?_
        refine lv_iconst (v := (nI 0)) hx hb dX0_shareBy_69 (by decide) ?_
        refine rd_call (va_runV (As := [.int (nI i), .int (nI 0)]) (rest := [.int (nI ((if f = fi then 3 else 0) + sm (fun s => if hon σ d s && decide (sg σ s 0 = f) then hlp σ s c else 0) i))]) ⟨hx, hb, hml, hown, hts⟩ (c_X3_get l g cy (a 6) (a 7) s.heap.size 20 6 120 (b 3) (σ 1) (nI i) 0 (by omega) (by omega) (by omega) (by omega) (by omega) (by omega)) ⟨(cB 2 hts wd13_23 wd2_11 wd13_20 rfl rfl (by decide +kernel) ⟨Nat.le_of_ble_eq_true rfl, Nat.le_of_ble_eq_true rfl⟩), hts _ wd13_21, hts _ wd13_22⟩ (pv hK hP hD hS hA hX [6, 7] rfl rfl 3 6 rfl rfl) rfl rfl hl.1 rfl (lv_room (Nat.le_of_ble_eq_true rfl)) dX0_shareBy_70 ⟨Nat.zero_le _, Nat.zero_le _⟩) ?_
        refine ti (show getR (b 3) 6 (σ 1) (nI i) 0 = (nI (sg σ i 0)) from (hbr.gs hn1 (by omega) (by decide))) ?_
        refine lv_iload hx hb dX0_shareBy_73 (lv_at hl 7 rfl) ?_
        refine lv_icmp_ne (tgt := 83) hx hb dX0_shareBy_75 (by decide) (fun c_75 => ?_) (fun c_75 => ?_)
        · have c_75 := (nc_ne9 (by omega) (by omega) c_75)
          refine lv_iconst (v := (nI 0)) hx hb dX0_shareBy_83 (by decide) ?_
          refine lv_iadd hx hb dX0_shareBy_84 ?_
          refine ti (nI_add ((if f = fi then 3 else 0) + sm (fun s => if hon σ d s && decide (sg σ s 0 = f) then hlp σ s c else 0) i) 0) ?_
          refine lv_istore (lv' := [(6, .int (nI (((if f = fi then 3 else 0) + sm (fun s => if hon σ d s && decide (sg σ s 0 = f) then hlp σ s c else 0) i) + 0))), (7, .int (nI ((3 + sm (fun s => if hon σ d s then hlp σ s c else 0) i) + (if hon σ d i then hlp σ i c else 0)))), (9, .int (nI (if hon σ d i then hlp σ i c else 0))), (0, .ref (a 0)), (1, .int (nI d)), (2, .int (nI ho)), (3, .int (nI fi)), (4, .int (nI c)), (5, .int (nI f)), (8, .int (nI i))]) hx hb dX0_shareBy_85 hl (by decide) rfl (fun ls hl => ?_)
          have hl : lv_has ls 10 [(6, .int (nI ((if f = fi then 3 else 0) + sm (fun s => if hon σ d s && decide (sg σ s 0 = f) then hlp σ s c else 0) (i + 1)))), (7, .int (nI ((3 + sm (fun s => if hon σ d s then hlp σ s c else 0) i) + (if hon σ d i then hlp σ i c else 0)))), (9, .int (nI (if hon σ d i then hlp σ i c else 0))), (0, .ref (a 0)), (1, .int (nI d)), (2, .int (nI ho)), (3, .int (nI fi)), (4, .int (nI c)), (5, .int (nI f)), (8, .int (nI i))] := by rw [← show (nI (((if f = fi then 3 else 0) + sm (fun s => if hon σ d s && decide (sg σ s 0 = f) then hlp σ s c else 0) i) + 0)) = (nI ((if f = fi then 3 else 0) + sm (fun s => if hon σ d s && decide (sg σ s 0 = f) then hlp σ s c else 0) (i + 1))) from (congrArg nI (by simp [sm, c_75, Nat.add_assoc, Bool.and_comm]))]; exact hl
          have hl : lv_has ls 10 [(6, .int (nI ((if f = fi then 3 else 0) + sm (fun s => if hon σ d s && decide (sg σ s 0 = f) then hlp σ s c else 0) (i + 1)))), (7, .int (nI (3 + sm (fun s => if hon σ d s then hlp σ s c else 0) (i + 1)))), (9, .int (nI (if hon σ d i then hlp σ i c else 0))), (0, .ref (a 0)), (1, .int (nI d)), (2, .int (nI ho)), (3, .int (nI fi)), (4, .int (nI c)), (5, .int (nI f)), (8, .int (nI i))] := by rw [← show (nI ((3 + sm (fun s => if hon σ d s then hlp σ s c else 0) i) + (if hon σ d i then hlp σ i c else 0))) = (nI (3 + sm (fun s => if hon σ d s then hlp σ s c else 0) (i + 1))) from (congrArg nI (by simp [sm, Nat.add_assoc]))]; exact hl
          refine lv_iinc (v := (nI (i + 1))) (lv' := [(8, .int (nI (i + 1))), (6, .int (nI ((if f = fi then 3 else 0) + sm (fun s => if hon σ d s && decide (sg σ s 0 = f) then hlp σ s c else 0) (i + 1)))), (7, .int (nI (3 + sm (fun s => if hon σ d s then hlp σ s c else 0) (i + 1)))), (9, .int (nI (if hon σ d i then hlp σ i c else 0))), (0, .ref (a 0)), (1, .int (nI d)), (2, .int (nI ho)), (3, .int (nI fi)), (4, .int (nI c)), (5, .int (nI f))]) hx hb dX0_shareBy_87 hl (k := 9) rfl (nI_add i 1) (by decide) rfl (fun ls hl => ?_)
          refine lv_goto (tgt := 19) hx hb dX0_shareBy_90 (by decide) ?_
          exact ih19 (i + 1) ls ⟨lv_sub hl [4, 5, 6, 7, 8, 9, 1, 2, 0] rfl, (by omega)⟩ (by first | omega | (dsimp only; omega))
        · have c_75 := (nc_eq9 (by omega) (by omega) c_75)
          refine lv_iload hx hb dX0_shareBy_78 (lv_at hl 1 rfl) ?_
          refine lv_goto (tgt := 84) hx hb dX0_shareBy_80 (by decide) ?_
          refine lv_iadd hx hb dX0_shareBy_84 ?_
          refine ti (nI_add ((if f = fi then 3 else 0) + sm (fun s => if hon σ d s && decide (sg σ s 0 = f) then hlp σ s c else 0) i) (if hon σ d i then hlp σ i c else 0)) ?_
          refine lv_istore (lv' := [(6, .int (nI (((if f = fi then 3 else 0) + sm (fun s => if hon σ d s && decide (sg σ s 0 = f) then hlp σ s c else 0) i) + (if hon σ d i then hlp σ i c else 0)))), (7, .int (nI ((3 + sm (fun s => if hon σ d s then hlp σ s c else 0) i) + (if hon σ d i then hlp σ i c else 0)))), (9, .int (nI (if hon σ d i then hlp σ i c else 0))), (0, .ref (a 0)), (1, .int (nI d)), (2, .int (nI ho)), (3, .int (nI fi)), (4, .int (nI c)), (5, .int (nI f)), (8, .int (nI i))]) hx hb dX0_shareBy_85 hl (by decide) rfl (fun ls hl => ?_)
          have hl : lv_has ls 10 [(6, .int (nI ((if f = fi then 3 else 0) + sm (fun s => if hon σ d s && decide (sg σ s 0 = f) then hlp σ s c else 0) (i + 1)))), (7, .int (nI ((3 + sm (fun s => if hon σ d s then hlp σ s c else 0) i) + (if hon σ d i then hlp σ i c else 0)))), (9, .int (nI (if hon σ d i then hlp σ i c else 0))), (0, .ref (a 0)), (1, .int (nI d)), (2, .int (nI ho)), (3, .int (nI fi)), (4, .int (nI c)), (5, .int (nI f)), (8, .int (nI i))] := by rw [← show (nI (((if f = fi then 3 else 0) + sm (fun s => if hon σ d s && decide (sg σ s 0 = f) then hlp σ s c else 0) i) + (if hon σ d i then hlp σ i c else 0))) = (nI ((if f = fi then 3 else 0) + sm (fun s => if hon σ d s && decide (sg σ s 0 = f) then hlp σ s c else 0) (i + 1))) from (congrArg nI (by simp [sm, c_75, Nat.add_assoc, Bool.and_comm]))]; exact hl
          have hl : lv_has ls 10 [(6, .int (nI ((if f = fi then 3 else 0) + sm (fun s => if hon σ d s && decide (sg σ s 0 = f) then hlp σ s c else 0) (i + 1)))), (7, .int (nI (3 + sm (fun s => if hon σ d s then hlp σ s c else 0) (i + 1)))), (9, .int (nI (if hon σ d i then hlp σ i c else 0))), (0, .ref (a 0)), (1, .int (nI d)), (2, .int (nI ho)), (3, .int (nI fi)), (4, .int (nI c)), (5, .int (nI f)), (8, .int (nI i))] := by rw [← show (nI ((3 + sm (fun s => if hon σ d s then hlp σ s c else 0) i) + (if hon σ d i then hlp σ i c else 0))) = (nI (3 + sm (fun s => if hon σ d s then hlp σ s c else 0) (i + 1))) from (congrArg nI (by simp [sm, Nat.add_assoc]))]; exact hl
          refine lv_iinc (v := (nI (i + 1))) (lv' := [(8, .int (nI (i + 1))), (6, .int (nI ((if f = fi then 3 else 0) + sm (fun s => if hon σ d s && decide (sg σ s 0 = f) then hlp σ s c else 0) (i + 1)))), (7, .int (nI (3 + sm (fun s => if hon σ d s then hlp σ s c else 0) (i + 1)))), (9, .int (nI (if hon σ d i then hlp σ i c else 0))), (0, .ref (a 0)), (1, .int (nI d)), (2, .int (nI ho)), (3, .int (nI fi)), (4, .int (nI c)), (5, .int (nI f))]) hx hb dX0_shareBy_87 hl (k := 9) rfl (nI_add i 1) (by decide) rfl (fun ls hl => ?_)
          refine lv_goto (tgt := 19) hx hb dX0_shareBy_90 (by decide) ?_
          exact ih19 (i + 1) ls ⟨lv_sub hl [4, 5, 6, 7, 8, 9, 1, 2, 0] rfl, (by omega)⟩ (by first | omega | (dsimp only; omega))
      · skip
        have hsb := hwf.sb (show i < σ 1 by omega)
        have hbit : hon σ d i = ho.testBit i := by rw [hho, mk_bit]; simp [show i < σ 1 by omega]
        refine lv_iload_n hx hb dX0_shareBy_31 rfl (lv_at hl 2 rfl) ?_
        refine lv_iload hx hb dX0_shareBy_32 (lv_at hl 8 rfl) ?_
        refine rd_call (va_runSN (As := [.int (nI ho), .int (nI i)]) (rest := []) ⟨hx, hb, hml, hown, hts⟩ (c_X7_hasBit l ho i (by omega) (by omega)) ⟨va_cnB 2 hts (bg_call wd5_0) rfl rfl rfl (nM_8 hX) (hts _ wd1_2) (by decide +kernel) ⟨Nat.le_of_ble_eq_true rfl, Nat.le_of_ble_eq_true rfl⟩, hts _ wd4_23, trivial⟩ p0 rfl rfl hl.1 rfl (lv_room (Nat.le_of_ble_eq_true rfl)) dX0_shareBy_34 ⟨Nat.zero_le _, Nat.zero_le _⟩) ?_
        show W _ _ _ _ _ _ _ _ _ _ _ _ _ _ _ (F0 mX 37 ls [.int (bI (ho.testBit i))])
        refine lv_if_eq (tgt := 51) hx hb dX0_shareBy_37 (by decide) (fun c_37 => ?_) (fun c_37 => ?_)
        · have c_37 := (bI_eq0.mp c_37)
          refine lv_iconst (v := (nI 0)) hx hb dX0_shareBy_51 (by decide) ?_
          exact jn52 _ (congrArg nI (by simp [hbit, c_37]))
        · have c_37 := (bI_ne0.mp c_37)
          refine lv_aload_n hx hb dX0_shareBy_40 rfl (lv_at hl 0 rfl) ?_
          refine lv_iload hx hb dX0_shareBy_41 (lv_at hl 8 rfl) ?_
          refine lv_iload hx hb dX0_shareBy_43 (lv_at hl 4 rfl) ?_
          refine rd_call (va_runV (As := [.int (nI i), .int (nI c)]) (rest := []) ⟨hx, hb, hml, hown, hts⟩ (c_X0_helpOf2 l g cy  s.heap.size a σ b bd v3 v4 v5 i c hwf hbr (by omega) (by omega)) ⟨(cB 2 hts wd16_21 wd1_12 wd16_18 rfl rfl (by decide +kernel) ⟨Nat.le_of_ble_eq_true rfl, Nat.le_of_ble_eq_true rfl⟩), hts _ wd16_19, hts _ wd16_20⟩ (pv hK hP hD hS hA hX [0, 1, 2, 3, 4, 5, 6, 7, 8] rfl rfl 0 0 rfl rfl) rfl rfl hl.1 rfl (lv_room (Nat.le_of_ble_eq_true rfl)) dX0_shareBy_45 ⟨Nat.zero_le _, Nat.zero_le _⟩) ?_
          show W _ _ _ _ _ _ _ _ _ _ _ _ _ _ _ (F0 mX 48 ls [.int (nI (hlp σ i c))])
          refine lv_goto (tgt := 52) hx hb dX0_shareBy_48 (by decide) ?_
          exact jn52 _ (congrArg nI (by simp [hbit, c_37]))
  · skip
    refine lv_iload hx hb dX0_shareBy_0 (lv_at hl 5 rfl) ?_
    refine lv_iload_n hx hb dX0_shareBy_2 rfl (lv_at hl 3 rfl) ?_
    refine lv_icmp_ne (tgt := 10) hx hb dX0_shareBy_3 (by decide) (fun c_3 => ?_) (fun c_3 => ?_)
    · have c_3 := (nc_ne9 (by omega) (by omega) c_3)
      refine lv_iconst (v := (nI 0)) hx hb dX0_shareBy_10 (by decide) ?_
      exact jn11 _ (congrArg nI (by simp [c_3]))
    · have c_3 := (nc_eq9 (by omega) (by omega) c_3)
      refine lv_iconst (v := (nI 3)) hx hb dX0_shareBy_6 (by decide) ?_
      refine lv_goto (tgt := 11) hx hb dX0_shareBy_7 (by decide) ?_
      exact jn11 _ (congrArg nI (by simp [c_3]))
set_option maxHeartbeats 4000000 in
set_option maxRecDepth 100000 in
theorem c_X0_coinsOf2 (l : Launch) (g : va_G) (cy : Nat → ClassId) (sz : Nat) (a : Nat → Nat) (w2 : Nat) (w3 : Nat) (w4 : Nat) (w5 : Nat) (w6 : Nat) (w7 : Nat) (pv : Nat → Nat) (f : Nat) (hf9 : f < 8) : Met l yX0_coinsOf (Cond.code yX0_coinsOf cX0_coinsOf 2 (some .int) :: wsL_law) ({ frames := 0, cells := 0, slots := 0, locals := 0 } : Room) (va_Pc [.ref (a 0), .int (nI f)] (pr g cy [(a 0, .inr (0, [.ref (a 1), .ref (a 4), .ref (a 6), .ref (a 8), .ref (a 9), .int (nI w2), .int (nI w3), .int (nI w4), .int (nI w5), .int (nI w6), .int (nI w7)])), aI cy (a 8) 8 (mS pv)] sz)) (rd_Q (some (.int (nI (pv f))))) 0 0 (nF) := by
  refine mt_of (cc := cX0_coinsOf) (maxL := 2) (ret := (some .int)) (by decide +kernel) (Nat.le_of_ble_eq_true rfl) ?_
  intro pX eX s mX below meth cX ls A hx hb hr hml hown hts hlk hin hsz hAe hA hP hD hK hX hl
  have hl : lv_has ls 2 [(0, .ref (a 0)), (1, .int (nI f))] := hl
  have hS : va_S A s.heap s.heap [] := va_S.rf
  refine lv_iload_n hx hb dX0_coinsOf_0 rfl (lv_at hl 1 rfl) ?_
  refine lv_if_lt (tgt := 22) hx hb dX0_coinsOf_1 (by decide) (fun c_1 => ?_) (fun c_1 => ?_)
  · exact absurd c_1 (nI_pos (by omega))
  · skip
    refine lv_iload_n hx hb dX0_coinsOf_4 rfl (lv_at hl 1 rfl) ?_
    refine lv_aload_n hx hb dX0_coinsOf_5 rfl (lv_at hl 0 rfl) ?_
    refine va_get (D := g) (ci := 0) (v := .ref (a 8)) (C := RX0) (T := TX0) (N := 11) hx hb hts bgX0 hown hK hP 0 rfl rfl 3 (by decide) (hts _ wd2_15) (fun _ h9 => h9) rfl dX0_coinsOf_6 ?_
    refine va_alen (v := nI 8) hx hb hK hP 1 0 rfl rfl rfl dX0_coinsOf_9 ?_
    refine lv_icmp_ge (tgt := 22) hx hb dX0_coinsOf_10 (by decide) (fun c_10 => ?_) (fun c_10 => ?_)
    · have c_10 := (nc_le (by omega) (by omega) c_10)
      omega
    · have c_10 := (nc_nle (by omega) (by omega) c_10)
      refine lv_aload_n hx hb dX0_coinsOf_13 rfl (lv_at hl 0 rfl) ?_
      refine va_get (D := g) (ci := 0) (v := .ref (a 8)) (C := RX0) (T := TX0) (N := 11) hx hb hts bgX0 hown hK hP 0 rfl rfl 3 (by decide) (hts _ wd2_15) (fun _ h9 => h9) rfl dX0_coinsOf_14 ?_
      refine lv_iload_n hx hb dX0_coinsOf_17 rfl (lv_at hl 1 rfl) ?_
      refine va_iald hx hb hK hP 1 0 rfl rfl (vp_in_nI (n := f) (by omega) (by omega)) dX0_coinsOf_18 ?_
      refine ti (show (mS pv) (nI f).toNatClampNeg = nI (pv f) from by rw [nI_clamp (by omega)]; rfl) ?_
      refine ti (show (nI (pv f)) = (nI (pv f)) from rfl) ?_
      refine lv_goto (tgt := 23) hx hb dX0_coinsOf_19 (by decide) ?_
      exact rd_i rfl hx hb hr dX0_coinsOf_23 hlk
set_option maxHeartbeats 4000000 in
set_option maxRecDepth 100000 in
theorem c_X0_findDog (l : Launch) (g : va_G) (cy : Nat → ClassId) (sz : Nat) (a : Nat → Nat) (σ : Nat → Nat) (b : Nat → Nat → Int32) (bd : Nat) (vd : Int32) (vf : Int32) (vc : Int32) (hwf : WF bd σ) (hbr : BR σ b) : Met l yX0_findDog (Cond.code yX0_findDog cX0_findDog 11 (some .int) :: wsL_law) ({ frames := 4, cells := 0, slots := 0, locals := 88 } : Room) (va_Pc [.ref (a 0), .int vd, .int vf, .int vc] (pr g cy [(a 0, .inr (0, [.ref (a 1), .ref (a 4), .ref (a 6), .ref (a 8), .ref (a 9), .int (nI (σ 2)), .int (nI (σ 3)), .int (nI (σ 4)), .int (nI (σ 5)), .int (nI (σ 6)), .int (nI (σ 7))])), (a 1, .inr (2, [.ref (a 2), .ref (a 3), .int (nI (cmk σ))])), aI cy (a 2) 144 (wv σ), aI cy (a 3) 12 (b 1), (a 4, .inr (3, [.int (nI 6), .int (nI 11), .ref (a 5), .int (nI (σ 0))])), aI cy (a 5) 66 (b 2), (a 6, .inr (3, [.int (nI 20), .int (nI 6), .ref (a 7), .int (nI (σ 1))])), aI cy (a 7) 120 (b 3), aI cy (a 8) 8 (mS (pu σ)), aI cy (a 9) 6 (b 5)] sz)) (wr_Q (fun b1 : Nat → Nat → Int32 => (some (.int (nI (findA σ vd vf vc))))) (fun b1 : Nat → Nat → Int32 => (BR (findR σ vd vf vc) b1)) (fun b1 : Nat → Nat → Int32 => [(a 0, .inr (0, [.ref (a 1), .ref (a 4), .ref (a 6), .ref (a 8), .ref (a 9), .int (nI ((findR σ vd vf vc) 2)), .int (nI ((findR σ vd vf vc) 3)), .int (nI ((findR σ vd vf vc) 4)), .int (nI ((findR σ vd vf vc) 5)), .int (nI ((findR σ vd vf vc) 6)), .int (nI ((findR σ vd vf vc) 7))])), (a 1, .inr (2, [.ref (a 2), .ref (a 3), .int (nI (cmk (findR σ vd vf vc)))])), aI cy (a 2) 144 (wv (findR σ vd vf vc)), aI cy (a 3) 12 (b1 1), (a 4, .inr (3, [.int (nI 6), .int (nI 11), .ref (a 5), .int (nI ((findR σ vd vf vc) 0))])), aI cy (a 5) 66 (b1 2), (a 6, .inr (3, [.int (nI 20), .int (nI 6), .ref (a 7), .int (nI ((findR σ vd vf vc) 1))])), aI cy (a 7) 120 (b1 3), aI cy (a 8) 8 (mS (pu (findR σ vd vf vc))), aI cy (a 9) 6 (b1 5)]) g (va_A [(a 0, .inr (0, [.ref (a 1), .ref (a 4), .ref (a 6), .ref (a 8), .ref (a 9), .int (nI (σ 2)), .int (nI (σ 3)), .int (nI (σ 4)), .int (nI (σ 5)), .int (nI (σ 6)), .int (nI (σ 7))])), (a 1, .inr (2, [.ref (a 2), .ref (a 3), .int (nI (cmk σ))])), aI cy (a 2) 144 (wv σ), aI cy (a 3) 12 (b 1), (a 4, .inr (3, [.int (nI 6), .int (nI 11), .ref (a 5), .int (nI (σ 0))])), aI cy (a 5) 66 (b 2), (a 6, .inr (3, [.int (nI 20), .int (nI 6), .ref (a 7), .int (nI (σ 1))])), aI cy (a 7) 120 (b 3), aI cy (a 8) 8 (mS (pu σ)), aI cy (a 9) 6 (b 5)] sz)) 0 0 (va_A [(a 0, .inr (0, [.ref (a 1), .ref (a 4), .ref (a 6), .ref (a 8), .ref (a 9), .int (nI (σ 2)), .int (nI (σ 3)), .int (nI (σ 4)), .int (nI (σ 5)), .int (nI (σ 6)), .int (nI (σ 7))])), (a 1, .inr (2, [.ref (a 2), .ref (a 3), .int (nI (cmk σ))])), aI cy (a 2) 144 (wv σ), aI cy (a 3) 12 (b 1), (a 4, .inr (3, [.int (nI 6), .int (nI 11), .ref (a 5), .int (nI (σ 0))])), aI cy (a 5) 66 (b 2), (a 6, .inr (3, [.int (nI 20), .int (nI 6), .ref (a 7), .int (nI (σ 1))])), aI cy (a 7) 120 (b 3), aI cy (a 8) 8 (mS (pu σ)), aI cy (a 9) 6 (b 5)] sz) := by
  refine mt_of (cc := cX0_findDog) (maxL := 11) (ret := (some .int)) (by decide +kernel) (Nat.le_of_ble_eq_true rfl) ?_
  intro pX eX s mX below meth cX ls A hx hb hr hml hown hts hlk hin hsz hAe hA hP hD hK hX hl
  subst hsz
  rw [← hAe]
  clear hAe
  have hl : lv_has ls 11 [(0, .ref (a 0)), (1, .int vd), (2, .int vf), (3, .int vc)] := hl
  have hS : va_S A s.heap s.heap [] := va_S.rf
  have hn0 := hwf.n0
  have hn1 := hwf.n1
  have hh2 := hwf.h2
  refine lv_aload_n hx hb dX0_findDog_0 rfl (lv_at hl 0 rfl) ?_
  refine lv_iload_n hx hb dX0_findDog_1 rfl (lv_at hl 1 rfl) ?_
  refine lv_iload_n hx hb dX0_findDog_2 rfl (lv_at hl 2 rfl) ?_
  refine lv_iload_n hx hb dX0_findDog_3 rfl (lv_at hl 3 rfl) ?_
  refine rd_call (va_runV (As := [.int vd, .int vf, .int vc]) (rest := []) ⟨hx, hb, hml, hown, hts⟩ (c_X0_faultOfFinding l g cy  s.heap.size a σ b bd vd vf vc hwf hbr) ⟨(cB 3 hts wd14_22 wd1_12 wd14_19 rfl rfl (by decide +kernel) ⟨Nat.le_of_ble_eq_true rfl, Nat.le_of_ble_eq_true rfl⟩), hts _ wd14_20, hts _ wd14_21⟩ (pv hK hP hD hS hA hX [0, 1, 2, 3, 4, 5, 6, 7, 8, 9] rfl rfl 0 0 rfl rfl) rfl rfl hl.1 rfl (lv_room (Nat.le_of_ble_eq_true rfl)) dX0_findDog_4 ⟨Nat.zero_le _, Nat.zero_le _⟩) ?_
  show W _ _ _ _ _ _ _ _ _ _ _ _ _ _ _ (F0 mX 7 ls [.int (nI (fFind σ vd vf vc))])
  have hff : fFind σ vd vf vc < 4 := by unfold fFind fAsk; split; split; split; all_goals omega
  refine lv_if_eq (tgt := 13) hx hb dX0_findDog_7 (by decide) (fun c_7 => ?_) (fun c_7 => ?_)
  · have c_7 := (nz_eq c_7 (by omega))
    obtain ⟨d9, f9, c9, ⟨rfl, rfl, rfl⟩, hd9, hm9, hf9, hc9⟩ := fFind_0 hn0 c_7
    have hs9 := findR_0 (by omega) hf9 hc9 c_7
    have hk20 : ∀ q, mk q (σ 1) < 2 ^ 20 := fun q => Nat.lt_of_lt_of_le (mk_lt q (σ 1)) (Nat.pow_le_pow_right (by decide) hn1)
    have hk1 := hk20 (trD σ d9)
    have hk2 := hk20 (frD σ d9)
    have hdb := hwf.db hd9
    refine lv_aload_n hx hb dX0_findDog_13 rfl (lv_at hl 0 rfl) ?_
    refine lv_iload_n hx hb dX0_findDog_14 rfl (lv_at hl 1 rfl) ?_
    refine rd_call (va_runV (As := [.int (nI d9)]) (rest := []) ⟨hx, hb, hml, hown, hts⟩ (c_X0_trueFor l g cy  s.heap.size a σ b bd d9 hwf hbr (by omega)) ⟨(cB 1 hts wd15_10 wd1_12 wd15_7 rfl rfl (by decide +kernel) ⟨Nat.le_of_ble_eq_true rfl, Nat.le_of_ble_eq_true rfl⟩), hts _ wd15_8, hts _ wd15_9⟩ (pv hK hP hD hS hA hX [0, 1, 2, 3, 4, 5, 6, 7, 8, 9] rfl rfl 0 0 rfl rfl) rfl rfl hl.1 rfl (lv_room (Nat.le_of_ble_eq_true rfl)) dX0_findDog_15 ⟨Nat.zero_le _, Nat.zero_le _⟩) ?_
    show W _ _ _ _ _ _ _ _ _ _ _ _ _ _ _ (F0 mX 18 ls [.int (nI (mk (trD σ d9) (σ 1)))])
    refine lv_istore (lv' := [(4, .int (nI (mk (trD σ d9) (σ 1)))), (0, .ref (a 0)), (1, .int (nI d9)), (2, .int (nI f9)), (3, .int (nI c9))]) hx hb dX0_findDog_18 hl (by decide) rfl (fun ls hl => ?_)
    refine lv_aload_n hx hb dX0_findDog_20 rfl (lv_at hl 1 rfl) ?_
    refine lv_iload_n hx hb dX0_findDog_21 rfl (lv_at hl 2 rfl) ?_
    refine rd_call (va_runV (As := [.int (nI d9)]) (rest := []) ⟨hx, hb, hml, hown, hts⟩ (c_X0_fraudsFor l g cy  s.heap.size a σ b bd d9 hwf hbr (by omega)) ⟨(cB 1 hts wd15_22 wd1_12 wd15_19 rfl rfl (by decide +kernel) ⟨Nat.le_of_ble_eq_true rfl, Nat.le_of_ble_eq_true rfl⟩), hts _ wd15_20, hts _ wd15_21⟩ (pv hK hP hD hS hA hX [0, 1, 2, 3, 4, 5, 6, 7, 8, 9] rfl rfl 0 0 rfl rfl) rfl rfl hl.1 rfl (lv_room (Nat.le_of_ble_eq_true rfl)) dX0_findDog_22 ⟨Nat.zero_le _, Nat.zero_le _⟩) ?_
    show W _ _ _ _ _ _ _ _ _ _ _ _ _ _ _ (F0 mX 25 ls [.int (nI (mk (frD σ d9) (σ 1)))])
    refine lv_istore (lv' := [(5, .int (nI (mk (frD σ d9) (σ 1)))), (4, .int (nI (mk (trD σ d9) (σ 1)))), (0, .ref (a 0)), (1, .int (nI d9)), (2, .int (nI f9)), (3, .int (nI c9))]) hx hb dX0_findDog_25 hl (by decide) rfl (fun ls hl => ?_)
    refine lv_aload_n hx hb dX0_findDog_27 rfl (lv_at hl 2 rfl) ?_
    refine lv_iload_n hx hb dX0_findDog_28 rfl (lv_at hl 3 rfl) ?_
    refine rd_call (va_runV (As := [.int (nI d9)]) (rest := []) ⟨hx, hb, hml, hown, hts⟩ (c_X0_sightingsMeaning l g cy  s.heap.size a σ b bd d9 hwf hbr (by omega)) ⟨(cB 1 hts wd16_2 wd1_12 wd15_23 rfl rfl (by decide +kernel) ⟨Nat.le_of_ble_eq_true rfl, Nat.le_of_ble_eq_true rfl⟩), hts _ wd16_0, hts _ wd16_1⟩ (pv hK hP hD hS hA hX [0, 1, 2, 3, 4, 5, 6, 7, 8, 9] rfl rfl 0 0 rfl rfl) rfl rfl hl.1 rfl (lv_room (Nat.le_of_ble_eq_true rfl)) dX0_findDog_29 ⟨Nat.zero_le _, Nat.zero_le _⟩) ?_
    show W _ _ _ _ _ _ _ _ _ _ _ _ _ _ _ (F0 mX 32 ls [.int (nI (mk (mng σ d9) (σ 1)))])
    refine lv_iload hx hb dX0_findDog_32 (lv_at hl 0 rfl) ?_
    refine lv_iconst (v := (nI NN)) hx hb dX0_findDog_34 (by decide) ?_
    refine lv_ixor hx hb dX0_findDog_35 ?_
    refine ti (nx_xor (mk (frD σ d9) (σ 1)) NN) ?_
    refine lv_iand hx hb dX0_findDog_36 ?_
    refine ti (nx_and (mk (mng σ d9) (σ 1)) ((mk (frD σ d9) (σ 1)) ^^^ NN)) ?_
    refine ti (show (nI ((mk (mng σ d9) (σ 1)) &&& ((mk (frD σ d9) (σ 1)) ^^^ NN))) = (nI (mk (hon σ d9) (σ 1))) from (by rw [nb_diffN (by omega), ho_eq])) ?_
    refine lv_istore (lv' := [(6, .int (nI (mk (hon σ d9) (σ 1)))), (5, .int (nI (mk (frD σ d9) (σ 1)))), (4, .int (nI (mk (trD σ d9) (σ 1)))), (0, .ref (a 0)), (1, .int (nI d9)), (2, .int (nI f9)), (3, .int (nI c9))]) hx hb dX0_findDog_37 hl (by decide) rfl (fun ls hl => ?_)
    refine lv_aload_n hx hb dX0_findDog_39 rfl (lv_at hl 3 rfl) ?_
    refine lv_iload_n hx hb dX0_findDog_40 rfl (lv_at hl 5 rfl) ?_
    refine rd_call (va_runV (As := [.int (nI f9)]) (rest := []) ⟨hx, hb, hml, hown, hts⟩ (c_X0_coinsOf l g cy  s.heap.size a σ b bd f9 hwf hbr (by omega)) ⟨(cB 1 hts wd16_13 wd1_12 wd16_10 rfl rfl (by decide +kernel) ⟨Nat.le_of_ble_eq_true rfl, Nat.le_of_ble_eq_true rfl⟩), hts _ wd16_11, hts _ wd16_12⟩ (pv hK hP hD hS hA hX [0, 1, 2, 3, 4, 5, 6, 7, 8, 9] rfl rfl 0 0 rfl rfl) rfl rfl hl.1 rfl (lv_room (Nat.le_of_ble_eq_true rfl)) dX0_findDog_41 ⟨Nat.zero_le _, Nat.zero_le _⟩) ?_
    show W _ _ _ _ _ _ _ _ _ _ _ _ _ _ _ (F0 mX 44 ls [.int (nI (σ (8 + f9)))])
    refine lv_istore (lv' := [(7, .int (nI (σ (8 + f9)))), (6, .int (nI (mk (hon σ d9) (σ 1)))), (5, .int (nI (mk (frD σ d9) (σ 1)))), (4, .int (nI (mk (trD σ d9) (σ 1)))), (0, .ref (a 0)), (1, .int (nI d9)), (2, .int (nI f9)), (3, .int (nI c9))]) hx hb dX0_findDog_44 hl (by decide) rfl (fun ls hl => ?_)
    refine lv_aload_n hx hb dX0_findDog_46 rfl (lv_at hl 4 rfl) ?_
    refine va_get (D := g) (ci := 0) (v := .ref (a 4)) (C := RX0) (T := TX0) (N := 11) hx hb hts bgX0 hown hK hP 0 rfl rfl 1 (by decide) (hts _ wd2_12) (fun _ h9 => h9) rfl dX0_findDog_47 ?_
    refine lv_iload_n hx hb dX0_findDog_50 rfl (lv_at hl 5 rfl) ?_
    refine lv_iconst (v := (nI 4)) hx hb dX0_findDog_51 (by decide) ?_
    refine rd_call (va_runV (As := [.int (nI d9), .int (nI 4)]) (rest := []) ⟨hx, hb, hml, hown, hts⟩ (c_X3_get l g cy (a 4) (a 5) s.heap.size 6 11 66 (b 2) (σ 0) (nI d9) 4 (by omega) (by omega) (by omega) (by omega) (by omega) (by omega)) ⟨(cB 2 hts wd13_23 wd2_11 wd13_20 rfl rfl (by decide +kernel) ⟨Nat.le_of_ble_eq_true rfl, Nat.le_of_ble_eq_true rfl⟩), hts _ wd13_21, hts _ wd13_22⟩ (pv hK hP hD hS hA hX [4, 5] rfl rfl 3 4 rfl rfl) rfl rfl hl.1 rfl (lv_room (Nat.le_of_ble_eq_true rfl)) dX0_findDog_52 ⟨Nat.zero_le _, Nat.zero_le _⟩) ?_
    refine ti (show getR (b 2) 11 (σ 0) (nI d9) 4 = (nI (dg σ d9 4)) from (hbr.gd hn0 (by omega) (by decide))) ?_
    refine lv_istore (lv' := [(8, .int (nI (dg σ d9 4))), (7, .int (nI (σ (8 + f9)))), (6, .int (nI (mk (hon σ d9) (σ 1)))), (5, .int (nI (mk (frD σ d9) (σ 1)))), (4, .int (nI (mk (trD σ d9) (σ 1)))), (0, .ref (a 0)), (1, .int (nI d9)), (2, .int (nI f9)), (3, .int (nI c9))]) hx hb dX0_findDog_55 hl (by decide) rfl (fun ls hl => ?_)
    refine lv_iconst (v := (nI 0)) hx hb dX0_findDog_57 (by decide) ?_
    refine lv_istore (lv' := [(9, .int (nI 0)), (8, .int (nI (dg σ d9 4))), (7, .int (nI (σ (8 + f9)))), (6, .int (nI (mk (hon σ d9) (σ 1)))), (5, .int (nI (mk (frD σ d9) (σ 1)))), (4, .int (nI (mk (trD σ d9) (σ 1)))), (0, .ref (a 0)), (1, .int (nI d9)), (2, .int (nI f9)), (3, .int (nI c9))]) hx hb dX0_findDog_58 hl (by decide) rfl (fun ls hl => ?_)
    rw [show (mS (pu σ)) = (mS (puI σ d9 f9 c9 0)) from (congrArg mS puI_0.symm)] at hP hD
    have hl : lv_has ls 11 [(9, .int (nI 0)), (8, .int (nI (dg σ d9 4 - sm (shr σ d9 f9 c9) 0))), (7, .int (nI (σ (8 + f9)))), (6, .int (nI (mk (hon σ d9) (σ 1)))), (5, .int (nI (mk (frD σ d9) (σ 1)))), (4, .int (nI (mk (trD σ d9) (σ 1)))), (0, .ref (a 0)), (1, .int (nI d9)), (2, .int (nI f9)), (3, .int (nI c9))] := by rw [← show (nI (dg σ d9 4)) = (nI (dg σ d9 4 - sm (shr σ d9 f9 c9) 0)) from rfl]; exact hl
    refine lp_rule (σ := (Nat)) (fun x9 H9 locs9 ls9 => va_P g vwCl [(a 0, .inr (0, [.ref (a 1), .ref (a 4), .ref (a 6), .ref (a 8), .ref (a 9), .int (nI (σ 2)), .int (nI (σ 3)), .int (nI (σ 4 + sm (shr σ d9 f9 c9) x9)), .int (nI (σ 5)), .int (nI (σ 6)), .int (nI (σ 7))])), (a 1, .inr (2, [.ref (a 2), .ref (a 3), .int (nI (cmk σ))])), aI cy (a 2) 144 (wv σ), aI cy (a 3) 12 (b 1), (a 4, .inr (3, [.int (nI 6), .int (nI 11), .ref (a 5), .int (nI (σ 0))])), aI cy (a 5) 66 (b 2), (a 6, .inr (3, [.int (nI 20), .int (nI 6), .ref (a 7), .int (nI (σ 1))])), aI cy (a 7) 120 (b 3), aI cy (a 8) 8 (mS (puI σ d9 f9 c9 x9)), aI cy (a 9) 6 (b 5)] H9 ∧ va_D A [(a 0, .inr (0, [.ref (a 1), .ref (a 4), .ref (a 6), .ref (a 8), .ref (a 9), .int (nI (σ 2)), .int (nI (σ 3)), .int (nI (σ 4 + sm (shr σ d9 f9 c9) x9)), .int (nI (σ 5)), .int (nI (σ 6)), .int (nI (σ 7))])), (a 1, .inr (2, [.ref (a 2), .ref (a 3), .int (nI (cmk σ))])), aI cy (a 2) 144 (wv σ), aI cy (a 3) 12 (b 1), (a 4, .inr (3, [.int (nI 6), .int (nI 11), .ref (a 5), .int (nI (σ 0))])), aI cy (a 5) 66 (b 2), (a 6, .inr (3, [.int (nI 20), .int (nI 6), .ref (a 7), .int (nI (σ 1))])), aI cy (a 7) 120 (b 3), aI cy (a 8) 8 (mS (puI σ d9 f9 c9 x9)), aI cy (a 9) 6 (b 5)] ∧ va_S A s.heap H9 locs9 ∧ lv_has ls9 11 [(0, .ref (a 0)), (1, .int (nI d9)), (2, .int (nI f9)), (3, .int (nI c9)), (4, .int (nI (mk (trD σ d9) (σ 1)))), (5, .int (nI (mk (frD σ d9) (σ 1)))), (6, .int (nI (mk (hon σ d9) (σ 1)))), (7, .int (nI (σ (8 + f9)))), (8, .int (nI (dg σ d9 4 - sm (shr σ d9 f9 c9) x9))), (9, .int (nI x9))] ∧ (x9 ≤ 8)) (fun x9 => 8 - x9) (0) ⟨hP, hD, hS, lv_sub hl [6, 7, 8, 9, 5, 4, 3, 2, 1, 0] rfl, (by omega)⟩ ?_
    rintro i H locs ls ⟨hP, hD, hS, hl, hi⟩ ih60
    try dsimp only at hl hi hP hD ih60
    refine lv_iload hx hb dX0_findDog_60 (lv_at hl 9 rfl) ?_
    refine lv_aload_n hx hb dX0_findDog_62 rfl (lv_at hl 0 rfl) ?_
    refine va_get (D := g) (ci := 0) (v := .ref (a 8)) (C := RX0) (T := TX0) (N := 11) hx hb hts bgX0 hown hK hP 0 rfl rfl 3 (by decide) (hts _ wd2_15) (fun _ h9 => h9) rfl dX0_findDog_63 ?_
    refine va_alen (v := nI 8) hx hb hK hP 8 0 rfl rfl rfl dX0_findDog_66 ?_
    refine lv_icmp_ge (tgt := 119) hx hb dX0_findDog_67 (by decide) (fun c_67 => ?_) (fun c_67 => ?_)
    · have c_67 := (nc_le (by omega) (by omega) c_67)
      have e9 : i = 8 := by omega
      subst e9
      refine lv_aload_n hx hb dX0_findDog_119 rfl (lv_at hl 0 rfl) ?_
      refine lv_dup hx hb dX0_findDog_120 rfl ?_
      refine va_get (D := g) (ci := 0) (v := .int (nI (σ 5))) (C := RX0) (T := TX0) (N := 11) hx hb hts bgX0 hown hK hP 0 rfl rfl 8 (by decide) (hts _ wd4_3) (fun _ h9 => h9) rfl dX0_findDog_121 ?_
      refine lv_iload hx hb dX0_findDog_124 (lv_at hl 8 rfl) ?_
      refine lv_iadd hx hb dX0_findDog_126 ?_
      refine ti (nI_add (σ 5) (dg σ d9 4 - sm (shr σ d9 f9 c9) 8)) ?_
      refine va_put (D := g) (ci := 0) (v := .int (nI ((σ 5) + (dg σ d9 4 - sm (shr σ d9 f9 c9) 8)))) (ty := .int) (C := RX0) (T := TX0) (N := 11) hx hb hts bgX0 tyX0 tyX0_ok nmX0 hown hK hP hD hS 0 rfl rfl 8 (by decide) (hts _ wd4_3) (fun _ h9 => h9) rfl (by decide +kernel) rfl rfl (Nat.le_of_ble_eq_true rfl) dX0_findDog_127 (fun H locs hP hD hS => ?_)
      have hP : va_P g vwCl [(a 0, .inr (0, [.ref (a 1), .ref (a 4), .ref (a 6), .ref (a 8), .ref (a 9), .int (nI (σ 2)), .int (nI (σ 3)), .int (nI (σ 4 + sm (shr σ d9 f9 c9) 8)), .int (nI ((σ 5) + (dg σ d9 4 - sm (shr σ d9 f9 c9) 8))), .int (nI (σ 6)), .int (nI (σ 7))])), (a 1, .inr (2, [.ref (a 2), .ref (a 3), .int (nI (cmk σ))])), aI cy (a 2) 144 (wv σ), aI cy (a 3) 12 (b 1), (a 4, .inr (3, [.int (nI 6), .int (nI 11), .ref (a 5), .int (nI (σ 0))])), aI cy (a 5) 66 (b 2), (a 6, .inr (3, [.int (nI 20), .int (nI 6), .ref (a 7), .int (nI (σ 1))])), aI cy (a 7) 120 (b 3), aI cy (a 8) 8 (mS (puI σ d9 f9 c9 8)), aI cy (a 9) 6 (b 5)] H := hP
      have hD : va_D A [(a 0, .inr (0, [.ref (a 1), .ref (a 4), .ref (a 6), .ref (a 8), .ref (a 9), .int (nI (σ 2)), .int (nI (σ 3)), .int (nI (σ 4 + sm (shr σ d9 f9 c9) 8)), .int (nI ((σ 5) + (dg σ d9 4 - sm (shr σ d9 f9 c9) 8))), .int (nI (σ 6)), .int (nI (σ 7))])), (a 1, .inr (2, [.ref (a 2), .ref (a 3), .int (nI (cmk σ))])), aI cy (a 2) 144 (wv σ), aI cy (a 3) 12 (b 1), (a 4, .inr (3, [.int (nI 6), .int (nI 11), .ref (a 5), .int (nI (σ 0))])), aI cy (a 5) 66 (b 2), (a 6, .inr (3, [.int (nI 20), .int (nI 6), .ref (a 7), .int (nI (σ 1))])), aI cy (a 7) 120 (b 3), aI cy (a 8) 8 (mS (puI σ d9 f9 c9 8)), aI cy (a 9) 6 (b 5)] := hD
      refine lv_aload_n hx hb dX0_findDog_130 rfl (lv_at hl 0 rfl) ?_
      refine va_get (D := g) (ci := 0) (v := .ref (a 4)) (C := RX0) (T := TX0) (N := 11) hx hb hts bgX0 hown hK hP 0 rfl rfl 1 (by decide) (hts _ wd2_12) (fun _ h9 => h9) rfl dX0_findDog_131 ?_
      refine lv_iload_n hx hb dX0_findDog_134 rfl (lv_at hl 1 rfl) ?_
      refine lv_iconst (v := (nI 5)) hx hb dX0_findDog_135 (by decide) ?_
      refine lv_iconst (v := (nI 0)) hx hb dX0_findDog_136 (by decide) ?_
      refine wr_call (wc := [(a 4, .inr (3, [.int (nI 6), .int (nI 11), .ref (a 5), .int (nI (σ 0))])), aI cy (a 5) 66 (b 2)]) (va_runV (As := [.int (nI d9), .int (nI 5), .int (nI 0)]) (rest := []) ⟨hx, hb, hml, hown, hts⟩ (c_X3_put l g cy (a 4) (a 5) H.size 6 11 66 (b 2) (σ 0) (nI d9) 5 (nI 0) (by omega) (by omega) (by omega) (by omega) (by omega) (by omega)) ⟨(cB 3 hts wd9_3 wd2_11 wd9_4 rfl rfl (by decide +kernel) ⟨Nat.le_of_ble_eq_true rfl, Nat.le_of_ble_eq_true rfl⟩), hts _ wd9_1, hts _ wd9_2⟩ (pv hK hP hD hS hA hX [4, 5] rfl rfl 3 4 rfl rfl) rfl rfl hl.1 rfl (lv_room (Nat.le_of_ble_eq_true rfl)) dX0_findDog_137 ⟨Nat.zero_le _, Nat.zero_le _⟩) hP hD hS hA [4, 5] rfl rfl (fun _ => (rfl : ([a 4, a 5] : List Nat) = [a 4, a 5])) ?_
      rintro _u9 H locs - hP hD hS
      have hP : va_P g vwCl [(a 0, .inr (0, [.ref (a 1), .ref (a 4), .ref (a 6), .ref (a 8), .ref (a 9), .int (nI (σ 2)), .int (nI (σ 3)), .int (nI (σ 4 + sm (shr σ d9 f9 c9) 8)), .int (nI ((σ 5) + (dg σ d9 4 - sm (shr σ d9 f9 c9) 8))), .int (nI (σ 6)), .int (nI (σ 7))])), (a 1, .inr (2, [.ref (a 2), .ref (a 3), .int (nI (cmk σ))])), aI cy (a 2) 144 (wv σ), aI cy (a 3) 12 (b 1), (a 4, .inr (3, [.int (nI 6), .int (nI 11), .ref (a 5), .int (nI (σ 0))])), aI cy (a 5) 66 (putR (b 2) 11 (σ 0) (nI d9) 5 (nI 0)), (a 6, .inr (3, [.int (nI 20), .int (nI 6), .ref (a 7), .int (nI (σ 1))])), aI cy (a 7) 120 (b 3), aI cy (a 8) 8 (mS (puI σ d9 f9 c9 8)), aI cy (a 9) 6 (b 5)] H := hP
      have hD : va_D A [(a 0, .inr (0, [.ref (a 1), .ref (a 4), .ref (a 6), .ref (a 8), .ref (a 9), .int (nI (σ 2)), .int (nI (σ 3)), .int (nI (σ 4 + sm (shr σ d9 f9 c9) 8)), .int (nI ((σ 5) + (dg σ d9 4 - sm (shr σ d9 f9 c9) 8))), .int (nI (σ 6)), .int (nI (σ 7))])), (a 1, .inr (2, [.ref (a 2), .ref (a 3), .int (nI (cmk σ))])), aI cy (a 2) 144 (wv σ), aI cy (a 3) 12 (b 1), (a 4, .inr (3, [.int (nI 6), .int (nI 11), .ref (a 5), .int (nI (σ 0))])), aI cy (a 5) 66 (putR (b 2) 11 (σ 0) (nI d9) 5 (nI 0)), (a 6, .inr (3, [.int (nI 20), .int (nI 6), .ref (a 7), .int (nI (σ 1))])), aI cy (a 7) 120 (b 3), aI cy (a 8) 8 (mS (puI σ d9 f9 c9 8)), aI cy (a 9) 6 (b 5)] := hD
      show W _ _ _ _ _ _ _ _ _ _ _ _ _ _ _ (F0 mX 140 ls [])
      rw [putR_n (j := d9) (by omega) (by omega)] at hP hD
      have hP : va_P g vwCl [(a 0, .inr (0, [.ref (a 1), .ref (a 4), .ref (a 6), .ref (a 8), .ref (a 9), .int (nI (σ 2)), .int (nI (σ 3)), .int (nI (σ 4 + sm (shr σ d9 f9 c9) 8)), .int (nI ((σ 5) + (dg σ d9 4 - sm (shr σ d9 f9 c9) 8))), .int (nI (σ 6)), .int (nI (σ 7))])), (a 1, .inr (2, [.ref (a 2), .ref (a 3), .int (nI (cmk σ))])), aI cy (a 2) 144 (wv σ), aI cy (a 3) 12 (b 1), (a 4, .inr (3, [.int (nI 6), .int (nI 11), .ref (a 5), .int (nI (σ 0))])), aI cy (a 5) 66 (upd (b 2) (d9 * 11 + 5) (nI 0)), (a 6, .inr (3, [.int (nI 20), .int (nI 6), .ref (a 7), .int (nI (σ 1))])), aI cy (a 7) 120 (b 3), aI cy (a 8) 8 (mS (puI σ d9 f9 c9 8)), aI cy (a 9) 6 (b 5)] H := hP
      have hD : va_D A [(a 0, .inr (0, [.ref (a 1), .ref (a 4), .ref (a 6), .ref (a 8), .ref (a 9), .int (nI (σ 2)), .int (nI (σ 3)), .int (nI (σ 4 + sm (shr σ d9 f9 c9) 8)), .int (nI ((σ 5) + (dg σ d9 4 - sm (shr σ d9 f9 c9) 8))), .int (nI (σ 6)), .int (nI (σ 7))])), (a 1, .inr (2, [.ref (a 2), .ref (a 3), .int (nI (cmk σ))])), aI cy (a 2) 144 (wv σ), aI cy (a 3) 12 (b 1), (a 4, .inr (3, [.int (nI 6), .int (nI 11), .ref (a 5), .int (nI (σ 0))])), aI cy (a 5) 66 (upd (b 2) (d9 * 11 + 5) (nI 0)), (a 6, .inr (3, [.int (nI 20), .int (nI 6), .ref (a 7), .int (nI (σ 1))])), aI cy (a 7) 120 (b 3), aI cy (a 8) 8 (mS (puI σ d9 f9 c9 8)), aI cy (a 9) 6 (b 5)] := hD
      refine lv_aload_n hx hb dX0_findDog_140 rfl (lv_at hl 0 rfl) ?_
      refine va_get (D := g) (ci := 0) (v := .ref (a 4)) (C := RX0) (T := TX0) (N := 11) hx hb hts bgX0 hown hK hP 0 rfl rfl 1 (by decide) (hts _ wd2_12) (fun _ h9 => h9) rfl dX0_findDog_141 ?_
      refine lv_iload_n hx hb dX0_findDog_144 rfl (lv_at hl 1 rfl) ?_
      refine lv_bipush (v := (nI 6)) hx hb dX0_findDog_145 (by decide) ?_
      refine lv_iload_n hx hb dX0_findDog_147 rfl (lv_at hl 3 rfl) ?_
      refine wr_call (wc := [(a 4, .inr (3, [.int (nI 6), .int (nI 11), .ref (a 5), .int (nI (σ 0))])), aI cy (a 5) 66 (upd (b 2) (d9 * 11 + 5) (nI 0))]) (va_runV (As := [.int (nI d9), .int (nI 6), .int (nI c9)]) (rest := []) ⟨hx, hb, hml, hown, hts⟩ (c_X3_put l g cy (a 4) (a 5) H.size 6 11 66 (upd (b 2) (d9 * 11 + 5) (nI 0)) (σ 0) (nI d9) 6 (nI c9) (by omega) (by omega) (by omega) (by omega) (by omega) (by omega)) ⟨(cB 3 hts wd9_3 wd2_11 wd9_4 rfl rfl (by decide +kernel) ⟨Nat.le_of_ble_eq_true rfl, Nat.le_of_ble_eq_true rfl⟩), hts _ wd9_1, hts _ wd9_2⟩ (pv hK hP hD hS hA hX [4, 5] rfl rfl 3 4 rfl rfl) rfl rfl hl.1 rfl (lv_room (Nat.le_of_ble_eq_true rfl)) dX0_findDog_148 ⟨Nat.zero_le _, Nat.zero_le _⟩) hP hD hS hA [4, 5] rfl rfl (fun _ => (rfl : ([a 4, a 5] : List Nat) = [a 4, a 5])) ?_
      rintro _u9 H locs - hP hD hS
      have hP : va_P g vwCl [(a 0, .inr (0, [.ref (a 1), .ref (a 4), .ref (a 6), .ref (a 8), .ref (a 9), .int (nI (σ 2)), .int (nI (σ 3)), .int (nI (σ 4 + sm (shr σ d9 f9 c9) 8)), .int (nI ((σ 5) + (dg σ d9 4 - sm (shr σ d9 f9 c9) 8))), .int (nI (σ 6)), .int (nI (σ 7))])), (a 1, .inr (2, [.ref (a 2), .ref (a 3), .int (nI (cmk σ))])), aI cy (a 2) 144 (wv σ), aI cy (a 3) 12 (b 1), (a 4, .inr (3, [.int (nI 6), .int (nI 11), .ref (a 5), .int (nI (σ 0))])), aI cy (a 5) 66 (putR (upd (b 2) (d9 * 11 + 5) (nI 0)) 11 (σ 0) (nI d9) 6 (nI c9)), (a 6, .inr (3, [.int (nI 20), .int (nI 6), .ref (a 7), .int (nI (σ 1))])), aI cy (a 7) 120 (b 3), aI cy (a 8) 8 (mS (puI σ d9 f9 c9 8)), aI cy (a 9) 6 (b 5)] H := hP
      have hD : va_D A [(a 0, .inr (0, [.ref (a 1), .ref (a 4), .ref (a 6), .ref (a 8), .ref (a 9), .int (nI (σ 2)), .int (nI (σ 3)), .int (nI (σ 4 + sm (shr σ d9 f9 c9) 8)), .int (nI ((σ 5) + (dg σ d9 4 - sm (shr σ d9 f9 c9) 8))), .int (nI (σ 6)), .int (nI (σ 7))])), (a 1, .inr (2, [.ref (a 2), .ref (a 3), .int (nI (cmk σ))])), aI cy (a 2) 144 (wv σ), aI cy (a 3) 12 (b 1), (a 4, .inr (3, [.int (nI 6), .int (nI 11), .ref (a 5), .int (nI (σ 0))])), aI cy (a 5) 66 (putR (upd (b 2) (d9 * 11 + 5) (nI 0)) 11 (σ 0) (nI d9) 6 (nI c9)), (a 6, .inr (3, [.int (nI 20), .int (nI 6), .ref (a 7), .int (nI (σ 1))])), aI cy (a 7) 120 (b 3), aI cy (a 8) 8 (mS (puI σ d9 f9 c9 8)), aI cy (a 9) 6 (b 5)] := hD
      show W _ _ _ _ _ _ _ _ _ _ _ _ _ _ _ (F0 mX 151 ls [])
      rw [putR_n (j := d9) (by omega) (by omega)] at hP hD
      have hP : va_P g vwCl [(a 0, .inr (0, [.ref (a 1), .ref (a 4), .ref (a 6), .ref (a 8), .ref (a 9), .int (nI (σ 2)), .int (nI (σ 3)), .int (nI (σ 4 + sm (shr σ d9 f9 c9) 8)), .int (nI ((σ 5) + (dg σ d9 4 - sm (shr σ d9 f9 c9) 8))), .int (nI (σ 6)), .int (nI (σ 7))])), (a 1, .inr (2, [.ref (a 2), .ref (a 3), .int (nI (cmk σ))])), aI cy (a 2) 144 (wv σ), aI cy (a 3) 12 (b 1), (a 4, .inr (3, [.int (nI 6), .int (nI 11), .ref (a 5), .int (nI (σ 0))])), aI cy (a 5) 66 (upd (upd (b 2) (d9 * 11 + 5) (nI 0)) (d9 * 11 + 6) (nI c9)), (a 6, .inr (3, [.int (nI 20), .int (nI 6), .ref (a 7), .int (nI (σ 1))])), aI cy (a 7) 120 (b 3), aI cy (a 8) 8 (mS (puI σ d9 f9 c9 8)), aI cy (a 9) 6 (b 5)] H := hP
      have hD : va_D A [(a 0, .inr (0, [.ref (a 1), .ref (a 4), .ref (a 6), .ref (a 8), .ref (a 9), .int (nI (σ 2)), .int (nI (σ 3)), .int (nI (σ 4 + sm (shr σ d9 f9 c9) 8)), .int (nI ((σ 5) + (dg σ d9 4 - sm (shr σ d9 f9 c9) 8))), .int (nI (σ 6)), .int (nI (σ 7))])), (a 1, .inr (2, [.ref (a 2), .ref (a 3), .int (nI (cmk σ))])), aI cy (a 2) 144 (wv σ), aI cy (a 3) 12 (b 1), (a 4, .inr (3, [.int (nI 6), .int (nI 11), .ref (a 5), .int (nI (σ 0))])), aI cy (a 5) 66 (upd (upd (b 2) (d9 * 11 + 5) (nI 0)) (d9 * 11 + 6) (nI c9)), (a 6, .inr (3, [.int (nI 20), .int (nI 6), .ref (a 7), .int (nI (σ 1))])), aI cy (a 7) 120 (b 3), aI cy (a 8) 8 (mS (puI σ d9 f9 c9 8)), aI cy (a 9) 6 (b 5)] := hD
      refine lv_aload_n hx hb dX0_findDog_151 rfl (lv_at hl 0 rfl) ?_
      refine va_get (D := g) (ci := 0) (v := .ref (a 4)) (C := RX0) (T := TX0) (N := 11) hx hb hts bgX0 hown hK hP 0 rfl rfl 1 (by decide) (hts _ wd2_12) (fun _ h9 => h9) rfl dX0_findDog_152 ?_
      refine lv_iload_n hx hb dX0_findDog_155 rfl (lv_at hl 1 rfl) ?_
      refine lv_bipush (v := (nI 7)) hx hb dX0_findDog_156 (by decide) ?_
      refine lv_iload_n hx hb dX0_findDog_158 rfl (lv_at hl 2 rfl) ?_
      refine wr_call (wc := [(a 4, .inr (3, [.int (nI 6), .int (nI 11), .ref (a 5), .int (nI (σ 0))])), aI cy (a 5) 66 (upd (upd (b 2) (d9 * 11 + 5) (nI 0)) (d9 * 11 + 6) (nI c9))]) (va_runV (As := [.int (nI d9), .int (nI 7), .int (nI f9)]) (rest := []) ⟨hx, hb, hml, hown, hts⟩ (c_X3_put l g cy (a 4) (a 5) H.size 6 11 66 (upd (upd (b 2) (d9 * 11 + 5) (nI 0)) (d9 * 11 + 6) (nI c9)) (σ 0) (nI d9) 7 (nI f9) (by omega) (by omega) (by omega) (by omega) (by omega) (by omega)) ⟨(cB 3 hts wd9_3 wd2_11 wd9_4 rfl rfl (by decide +kernel) ⟨Nat.le_of_ble_eq_true rfl, Nat.le_of_ble_eq_true rfl⟩), hts _ wd9_1, hts _ wd9_2⟩ (pv hK hP hD hS hA hX [4, 5] rfl rfl 3 4 rfl rfl) rfl rfl hl.1 rfl (lv_room (Nat.le_of_ble_eq_true rfl)) dX0_findDog_159 ⟨Nat.zero_le _, Nat.zero_le _⟩) hP hD hS hA [4, 5] rfl rfl (fun _ => (rfl : ([a 4, a 5] : List Nat) = [a 4, a 5])) ?_
      rintro _u9 H locs - hP hD hS
      have hP : va_P g vwCl [(a 0, .inr (0, [.ref (a 1), .ref (a 4), .ref (a 6), .ref (a 8), .ref (a 9), .int (nI (σ 2)), .int (nI (σ 3)), .int (nI (σ 4 + sm (shr σ d9 f9 c9) 8)), .int (nI ((σ 5) + (dg σ d9 4 - sm (shr σ d9 f9 c9) 8))), .int (nI (σ 6)), .int (nI (σ 7))])), (a 1, .inr (2, [.ref (a 2), .ref (a 3), .int (nI (cmk σ))])), aI cy (a 2) 144 (wv σ), aI cy (a 3) 12 (b 1), (a 4, .inr (3, [.int (nI 6), .int (nI 11), .ref (a 5), .int (nI (σ 0))])), aI cy (a 5) 66 (putR (upd (upd (b 2) (d9 * 11 + 5) (nI 0)) (d9 * 11 + 6) (nI c9)) 11 (σ 0) (nI d9) 7 (nI f9)), (a 6, .inr (3, [.int (nI 20), .int (nI 6), .ref (a 7), .int (nI (σ 1))])), aI cy (a 7) 120 (b 3), aI cy (a 8) 8 (mS (puI σ d9 f9 c9 8)), aI cy (a 9) 6 (b 5)] H := hP
      have hD : va_D A [(a 0, .inr (0, [.ref (a 1), .ref (a 4), .ref (a 6), .ref (a 8), .ref (a 9), .int (nI (σ 2)), .int (nI (σ 3)), .int (nI (σ 4 + sm (shr σ d9 f9 c9) 8)), .int (nI ((σ 5) + (dg σ d9 4 - sm (shr σ d9 f9 c9) 8))), .int (nI (σ 6)), .int (nI (σ 7))])), (a 1, .inr (2, [.ref (a 2), .ref (a 3), .int (nI (cmk σ))])), aI cy (a 2) 144 (wv σ), aI cy (a 3) 12 (b 1), (a 4, .inr (3, [.int (nI 6), .int (nI 11), .ref (a 5), .int (nI (σ 0))])), aI cy (a 5) 66 (putR (upd (upd (b 2) (d9 * 11 + 5) (nI 0)) (d9 * 11 + 6) (nI c9)) 11 (σ 0) (nI d9) 7 (nI f9)), (a 6, .inr (3, [.int (nI 20), .int (nI 6), .ref (a 7), .int (nI (σ 1))])), aI cy (a 7) 120 (b 3), aI cy (a 8) 8 (mS (puI σ d9 f9 c9 8)), aI cy (a 9) 6 (b 5)] := hD
      show W _ _ _ _ _ _ _ _ _ _ _ _ _ _ _ (F0 mX 162 ls [])
      rw [putR_n (j := d9) (by omega) (by omega)] at hP hD
      have hP : va_P g vwCl [(a 0, .inr (0, [.ref (a 1), .ref (a 4), .ref (a 6), .ref (a 8), .ref (a 9), .int (nI (σ 2)), .int (nI (σ 3)), .int (nI (σ 4 + sm (shr σ d9 f9 c9) 8)), .int (nI ((σ 5) + (dg σ d9 4 - sm (shr σ d9 f9 c9) 8))), .int (nI (σ 6)), .int (nI (σ 7))])), (a 1, .inr (2, [.ref (a 2), .ref (a 3), .int (nI (cmk σ))])), aI cy (a 2) 144 (wv σ), aI cy (a 3) 12 (b 1), (a 4, .inr (3, [.int (nI 6), .int (nI 11), .ref (a 5), .int (nI (σ 0))])), aI cy (a 5) 66 (upd (upd (upd (b 2) (d9 * 11 + 5) (nI 0)) (d9 * 11 + 6) (nI c9)) (d9 * 11 + 7) (nI f9)), (a 6, .inr (3, [.int (nI 20), .int (nI 6), .ref (a 7), .int (nI (σ 1))])), aI cy (a 7) 120 (b 3), aI cy (a 8) 8 (mS (puI σ d9 f9 c9 8)), aI cy (a 9) 6 (b 5)] H := hP
      have hD : va_D A [(a 0, .inr (0, [.ref (a 1), .ref (a 4), .ref (a 6), .ref (a 8), .ref (a 9), .int (nI (σ 2)), .int (nI (σ 3)), .int (nI (σ 4 + sm (shr σ d9 f9 c9) 8)), .int (nI ((σ 5) + (dg σ d9 4 - sm (shr σ d9 f9 c9) 8))), .int (nI (σ 6)), .int (nI (σ 7))])), (a 1, .inr (2, [.ref (a 2), .ref (a 3), .int (nI (cmk σ))])), aI cy (a 2) 144 (wv σ), aI cy (a 3) 12 (b 1), (a 4, .inr (3, [.int (nI 6), .int (nI 11), .ref (a 5), .int (nI (σ 0))])), aI cy (a 5) 66 (upd (upd (upd (b 2) (d9 * 11 + 5) (nI 0)) (d9 * 11 + 6) (nI c9)) (d9 * 11 + 7) (nI f9)), (a 6, .inr (3, [.int (nI 20), .int (nI 6), .ref (a 7), .int (nI (σ 1))])), aI cy (a 7) 120 (b 3), aI cy (a 8) 8 (mS (puI σ d9 f9 c9 8)), aI cy (a 9) 6 (b 5)] := hD
      refine lv_aload_n hx hb dX0_findDog_162 rfl (lv_at hl 0 rfl) ?_
      refine va_get (D := g) (ci := 0) (v := .ref (a 4)) (C := RX0) (T := TX0) (N := 11) hx hb hts bgX0 hown hK hP 0 rfl rfl 1 (by decide) (hts _ wd2_12) (fun _ h9 => h9) rfl dX0_findDog_163 ?_
      refine lv_iload_n hx hb dX0_findDog_166 rfl (lv_at hl 1 rfl) ?_
      refine lv_bipush (v := (nI 8)) hx hb dX0_findDog_167 (by decide) ?_
      refine lv_aload_n hx hb dX0_findDog_169 rfl (lv_at hl 0 rfl) ?_
      refine va_get (D := g) (ci := 0) (v := .int (nI (σ 2))) (C := RX0) (T := TX0) (N := 11) hx hb hts bgX0 hown hK hP 0 rfl rfl 5 (by decide) (hts _ wd4_0) (fun _ h9 => h9) rfl dX0_findDog_170 ?_
      refine wr_call (wc := [(a 4, .inr (3, [.int (nI 6), .int (nI 11), .ref (a 5), .int (nI (σ 0))])), aI cy (a 5) 66 (upd (upd (upd (b 2) (d9 * 11 + 5) (nI 0)) (d9 * 11 + 6) (nI c9)) (d9 * 11 + 7) (nI f9))]) (va_runV (As := [.int (nI d9), .int (nI 8), .int (nI (σ 2))]) (rest := []) ⟨hx, hb, hml, hown, hts⟩ (c_X3_put l g cy (a 4) (a 5) H.size 6 11 66 (upd (upd (upd (b 2) (d9 * 11 + 5) (nI 0)) (d9 * 11 + 6) (nI c9)) (d9 * 11 + 7) (nI f9)) (σ 0) (nI d9) 8 (nI (σ 2)) (by omega) (by omega) (by omega) (by omega) (by omega) (by omega)) ⟨(cB 3 hts wd9_3 wd2_11 wd9_4 rfl rfl (by decide +kernel) ⟨Nat.le_of_ble_eq_true rfl, Nat.le_of_ble_eq_true rfl⟩), hts _ wd9_1, hts _ wd9_2⟩ (pv hK hP hD hS hA hX [4, 5] rfl rfl 3 4 rfl rfl) rfl rfl hl.1 rfl (lv_room (Nat.le_of_ble_eq_true rfl)) dX0_findDog_173 ⟨Nat.zero_le _, Nat.zero_le _⟩) hP hD hS hA [4, 5] rfl rfl (fun _ => (rfl : ([a 4, a 5] : List Nat) = [a 4, a 5])) ?_
      rintro _u9 H locs - hP hD hS
      have hP : va_P g vwCl [(a 0, .inr (0, [.ref (a 1), .ref (a 4), .ref (a 6), .ref (a 8), .ref (a 9), .int (nI (σ 2)), .int (nI (σ 3)), .int (nI (σ 4 + sm (shr σ d9 f9 c9) 8)), .int (nI ((σ 5) + (dg σ d9 4 - sm (shr σ d9 f9 c9) 8))), .int (nI (σ 6)), .int (nI (σ 7))])), (a 1, .inr (2, [.ref (a 2), .ref (a 3), .int (nI (cmk σ))])), aI cy (a 2) 144 (wv σ), aI cy (a 3) 12 (b 1), (a 4, .inr (3, [.int (nI 6), .int (nI 11), .ref (a 5), .int (nI (σ 0))])), aI cy (a 5) 66 (putR (upd (upd (upd (b 2) (d9 * 11 + 5) (nI 0)) (d9 * 11 + 6) (nI c9)) (d9 * 11 + 7) (nI f9)) 11 (σ 0) (nI d9) 8 (nI (σ 2))), (a 6, .inr (3, [.int (nI 20), .int (nI 6), .ref (a 7), .int (nI (σ 1))])), aI cy (a 7) 120 (b 3), aI cy (a 8) 8 (mS (puI σ d9 f9 c9 8)), aI cy (a 9) 6 (b 5)] H := hP
      have hD : va_D A [(a 0, .inr (0, [.ref (a 1), .ref (a 4), .ref (a 6), .ref (a 8), .ref (a 9), .int (nI (σ 2)), .int (nI (σ 3)), .int (nI (σ 4 + sm (shr σ d9 f9 c9) 8)), .int (nI ((σ 5) + (dg σ d9 4 - sm (shr σ d9 f9 c9) 8))), .int (nI (σ 6)), .int (nI (σ 7))])), (a 1, .inr (2, [.ref (a 2), .ref (a 3), .int (nI (cmk σ))])), aI cy (a 2) 144 (wv σ), aI cy (a 3) 12 (b 1), (a 4, .inr (3, [.int (nI 6), .int (nI 11), .ref (a 5), .int (nI (σ 0))])), aI cy (a 5) 66 (putR (upd (upd (upd (b 2) (d9 * 11 + 5) (nI 0)) (d9 * 11 + 6) (nI c9)) (d9 * 11 + 7) (nI f9)) 11 (σ 0) (nI d9) 8 (nI (σ 2))), (a 6, .inr (3, [.int (nI 20), .int (nI 6), .ref (a 7), .int (nI (σ 1))])), aI cy (a 7) 120 (b 3), aI cy (a 8) 8 (mS (puI σ d9 f9 c9 8)), aI cy (a 9) 6 (b 5)] := hD
      show W _ _ _ _ _ _ _ _ _ _ _ _ _ _ _ (F0 mX 176 ls [])
      rw [putR_n (j := d9) (by omega) (by omega)] at hP hD
      have hP : va_P g vwCl [(a 0, .inr (0, [.ref (a 1), .ref (a 4), .ref (a 6), .ref (a 8), .ref (a 9), .int (nI (σ 2)), .int (nI (σ 3)), .int (nI (σ 4 + sm (shr σ d9 f9 c9) 8)), .int (nI ((σ 5) + (dg σ d9 4 - sm (shr σ d9 f9 c9) 8))), .int (nI (σ 6)), .int (nI (σ 7))])), (a 1, .inr (2, [.ref (a 2), .ref (a 3), .int (nI (cmk σ))])), aI cy (a 2) 144 (wv σ), aI cy (a 3) 12 (b 1), (a 4, .inr (3, [.int (nI 6), .int (nI 11), .ref (a 5), .int (nI (σ 0))])), aI cy (a 5) 66 (upd (upd (upd (upd (b 2) (d9 * 11 + 5) (nI 0)) (d9 * 11 + 6) (nI c9)) (d9 * 11 + 7) (nI f9)) (d9 * 11 + 8) (nI (σ 2))), (a 6, .inr (3, [.int (nI 20), .int (nI 6), .ref (a 7), .int (nI (σ 1))])), aI cy (a 7) 120 (b 3), aI cy (a 8) 8 (mS (puI σ d9 f9 c9 8)), aI cy (a 9) 6 (b 5)] H := hP
      have hD : va_D A [(a 0, .inr (0, [.ref (a 1), .ref (a 4), .ref (a 6), .ref (a 8), .ref (a 9), .int (nI (σ 2)), .int (nI (σ 3)), .int (nI (σ 4 + sm (shr σ d9 f9 c9) 8)), .int (nI ((σ 5) + (dg σ d9 4 - sm (shr σ d9 f9 c9) 8))), .int (nI (σ 6)), .int (nI (σ 7))])), (a 1, .inr (2, [.ref (a 2), .ref (a 3), .int (nI (cmk σ))])), aI cy (a 2) 144 (wv σ), aI cy (a 3) 12 (b 1), (a 4, .inr (3, [.int (nI 6), .int (nI 11), .ref (a 5), .int (nI (σ 0))])), aI cy (a 5) 66 (upd (upd (upd (upd (b 2) (d9 * 11 + 5) (nI 0)) (d9 * 11 + 6) (nI c9)) (d9 * 11 + 7) (nI f9)) (d9 * 11 + 8) (nI (σ 2))), (a 6, .inr (3, [.int (nI 20), .int (nI 6), .ref (a 7), .int (nI (σ 1))])), aI cy (a 7) 120 (b 3), aI cy (a 8) 8 (mS (puI σ d9 f9 c9 8)), aI cy (a 9) 6 (b 5)] := hD
      refine lv_aload_n hx hb dX0_findDog_176 rfl (lv_at hl 0 rfl) ?_
      refine va_get (D := g) (ci := 0) (v := .ref (a 4)) (C := RX0) (T := TX0) (N := 11) hx hb hts bgX0 hown hK hP 0 rfl rfl 1 (by decide) (hts _ wd2_12) (fun _ h9 => h9) rfl dX0_findDog_177 ?_
      refine lv_iload_n hx hb dX0_findDog_180 rfl (lv_at hl 1 rfl) ?_
      refine lv_bipush (v := (nI 9)) hx hb dX0_findDog_181 (by decide) ?_
      refine lv_iload hx hb dX0_findDog_183 (lv_at hl 4 rfl) ?_
      refine wr_call (wc := [(a 4, .inr (3, [.int (nI 6), .int (nI 11), .ref (a 5), .int (nI (σ 0))])), aI cy (a 5) 66 (upd (upd (upd (upd (b 2) (d9 * 11 + 5) (nI 0)) (d9 * 11 + 6) (nI c9)) (d9 * 11 + 7) (nI f9)) (d9 * 11 + 8) (nI (σ 2)))]) (va_runV (As := [.int (nI d9), .int (nI 9), .int (nI (mk (trD σ d9) (σ 1)))]) (rest := []) ⟨hx, hb, hml, hown, hts⟩ (c_X3_put l g cy (a 4) (a 5) H.size 6 11 66 (upd (upd (upd (upd (b 2) (d9 * 11 + 5) (nI 0)) (d9 * 11 + 6) (nI c9)) (d9 * 11 + 7) (nI f9)) (d9 * 11 + 8) (nI (σ 2))) (σ 0) (nI d9) 9 (nI (mk (trD σ d9) (σ 1))) (by omega) (by omega) (by omega) (by omega) (by omega) (by omega)) ⟨(cB 3 hts wd9_3 wd2_11 wd9_4 rfl rfl (by decide +kernel) ⟨Nat.le_of_ble_eq_true rfl, Nat.le_of_ble_eq_true rfl⟩), hts _ wd9_1, hts _ wd9_2⟩ (pv hK hP hD hS hA hX [4, 5] rfl rfl 3 4 rfl rfl) rfl rfl hl.1 rfl (lv_room (Nat.le_of_ble_eq_true rfl)) dX0_findDog_185 ⟨Nat.zero_le _, Nat.zero_le _⟩) hP hD hS hA [4, 5] rfl rfl (fun _ => (rfl : ([a 4, a 5] : List Nat) = [a 4, a 5])) ?_
      rintro _u9 H locs - hP hD hS
      have hP : va_P g vwCl [(a 0, .inr (0, [.ref (a 1), .ref (a 4), .ref (a 6), .ref (a 8), .ref (a 9), .int (nI (σ 2)), .int (nI (σ 3)), .int (nI (σ 4 + sm (shr σ d9 f9 c9) 8)), .int (nI ((σ 5) + (dg σ d9 4 - sm (shr σ d9 f9 c9) 8))), .int (nI (σ 6)), .int (nI (σ 7))])), (a 1, .inr (2, [.ref (a 2), .ref (a 3), .int (nI (cmk σ))])), aI cy (a 2) 144 (wv σ), aI cy (a 3) 12 (b 1), (a 4, .inr (3, [.int (nI 6), .int (nI 11), .ref (a 5), .int (nI (σ 0))])), aI cy (a 5) 66 (putR (upd (upd (upd (upd (b 2) (d9 * 11 + 5) (nI 0)) (d9 * 11 + 6) (nI c9)) (d9 * 11 + 7) (nI f9)) (d9 * 11 + 8) (nI (σ 2))) 11 (σ 0) (nI d9) 9 (nI (mk (trD σ d9) (σ 1)))), (a 6, .inr (3, [.int (nI 20), .int (nI 6), .ref (a 7), .int (nI (σ 1))])), aI cy (a 7) 120 (b 3), aI cy (a 8) 8 (mS (puI σ d9 f9 c9 8)), aI cy (a 9) 6 (b 5)] H := hP
      have hD : va_D A [(a 0, .inr (0, [.ref (a 1), .ref (a 4), .ref (a 6), .ref (a 8), .ref (a 9), .int (nI (σ 2)), .int (nI (σ 3)), .int (nI (σ 4 + sm (shr σ d9 f9 c9) 8)), .int (nI ((σ 5) + (dg σ d9 4 - sm (shr σ d9 f9 c9) 8))), .int (nI (σ 6)), .int (nI (σ 7))])), (a 1, .inr (2, [.ref (a 2), .ref (a 3), .int (nI (cmk σ))])), aI cy (a 2) 144 (wv σ), aI cy (a 3) 12 (b 1), (a 4, .inr (3, [.int (nI 6), .int (nI 11), .ref (a 5), .int (nI (σ 0))])), aI cy (a 5) 66 (putR (upd (upd (upd (upd (b 2) (d9 * 11 + 5) (nI 0)) (d9 * 11 + 6) (nI c9)) (d9 * 11 + 7) (nI f9)) (d9 * 11 + 8) (nI (σ 2))) 11 (σ 0) (nI d9) 9 (nI (mk (trD σ d9) (σ 1)))), (a 6, .inr (3, [.int (nI 20), .int (nI 6), .ref (a 7), .int (nI (σ 1))])), aI cy (a 7) 120 (b 3), aI cy (a 8) 8 (mS (puI σ d9 f9 c9 8)), aI cy (a 9) 6 (b 5)] := hD
      show W _ _ _ _ _ _ _ _ _ _ _ _ _ _ _ (F0 mX 188 ls [])
      rw [putR_n (j := d9) (by omega) (by omega)] at hP hD
      have hP : va_P g vwCl [(a 0, .inr (0, [.ref (a 1), .ref (a 4), .ref (a 6), .ref (a 8), .ref (a 9), .int (nI (σ 2)), .int (nI (σ 3)), .int (nI (σ 4 + sm (shr σ d9 f9 c9) 8)), .int (nI ((σ 5) + (dg σ d9 4 - sm (shr σ d9 f9 c9) 8))), .int (nI (σ 6)), .int (nI (σ 7))])), (a 1, .inr (2, [.ref (a 2), .ref (a 3), .int (nI (cmk σ))])), aI cy (a 2) 144 (wv σ), aI cy (a 3) 12 (b 1), (a 4, .inr (3, [.int (nI 6), .int (nI 11), .ref (a 5), .int (nI (σ 0))])), aI cy (a 5) 66 (upd (upd (upd (upd (upd (b 2) (d9 * 11 + 5) (nI 0)) (d9 * 11 + 6) (nI c9)) (d9 * 11 + 7) (nI f9)) (d9 * 11 + 8) (nI (σ 2))) (d9 * 11 + 9) (nI (mk (trD σ d9) (σ 1)))), (a 6, .inr (3, [.int (nI 20), .int (nI 6), .ref (a 7), .int (nI (σ 1))])), aI cy (a 7) 120 (b 3), aI cy (a 8) 8 (mS (puI σ d9 f9 c9 8)), aI cy (a 9) 6 (b 5)] H := hP
      have hD : va_D A [(a 0, .inr (0, [.ref (a 1), .ref (a 4), .ref (a 6), .ref (a 8), .ref (a 9), .int (nI (σ 2)), .int (nI (σ 3)), .int (nI (σ 4 + sm (shr σ d9 f9 c9) 8)), .int (nI ((σ 5) + (dg σ d9 4 - sm (shr σ d9 f9 c9) 8))), .int (nI (σ 6)), .int (nI (σ 7))])), (a 1, .inr (2, [.ref (a 2), .ref (a 3), .int (nI (cmk σ))])), aI cy (a 2) 144 (wv σ), aI cy (a 3) 12 (b 1), (a 4, .inr (3, [.int (nI 6), .int (nI 11), .ref (a 5), .int (nI (σ 0))])), aI cy (a 5) 66 (upd (upd (upd (upd (upd (b 2) (d9 * 11 + 5) (nI 0)) (d9 * 11 + 6) (nI c9)) (d9 * 11 + 7) (nI f9)) (d9 * 11 + 8) (nI (σ 2))) (d9 * 11 + 9) (nI (mk (trD σ d9) (σ 1)))), (a 6, .inr (3, [.int (nI 20), .int (nI 6), .ref (a 7), .int (nI (σ 1))])), aI cy (a 7) 120 (b 3), aI cy (a 8) 8 (mS (puI σ d9 f9 c9 8)), aI cy (a 9) 6 (b 5)] := hD
      refine lv_aload_n hx hb dX0_findDog_188 rfl (lv_at hl 0 rfl) ?_
      refine va_get (D := g) (ci := 0) (v := .ref (a 4)) (C := RX0) (T := TX0) (N := 11) hx hb hts bgX0 hown hK hP 0 rfl rfl 1 (by decide) (hts _ wd2_12) (fun _ h9 => h9) rfl dX0_findDog_189 ?_
      refine lv_iload_n hx hb dX0_findDog_192 rfl (lv_at hl 1 rfl) ?_
      refine lv_bipush (v := (nI 10)) hx hb dX0_findDog_193 (by decide) ?_
      refine lv_iload hx hb dX0_findDog_195 (lv_at hl 5 rfl) ?_
      refine wr_call (wc := [(a 4, .inr (3, [.int (nI 6), .int (nI 11), .ref (a 5), .int (nI (σ 0))])), aI cy (a 5) 66 (upd (upd (upd (upd (upd (b 2) (d9 * 11 + 5) (nI 0)) (d9 * 11 + 6) (nI c9)) (d9 * 11 + 7) (nI f9)) (d9 * 11 + 8) (nI (σ 2))) (d9 * 11 + 9) (nI (mk (trD σ d9) (σ 1))))]) (va_runV (As := [.int (nI d9), .int (nI 10), .int (nI (mk (frD σ d9) (σ 1)))]) (rest := []) ⟨hx, hb, hml, hown, hts⟩ (c_X3_put l g cy (a 4) (a 5) H.size 6 11 66 (upd (upd (upd (upd (upd (b 2) (d9 * 11 + 5) (nI 0)) (d9 * 11 + 6) (nI c9)) (d9 * 11 + 7) (nI f9)) (d9 * 11 + 8) (nI (σ 2))) (d9 * 11 + 9) (nI (mk (trD σ d9) (σ 1)))) (σ 0) (nI d9) 10 (nI (mk (frD σ d9) (σ 1))) (by omega) (by omega) (by omega) (by omega) (by omega) (by omega)) ⟨(cB 3 hts wd9_3 wd2_11 wd9_4 rfl rfl (by decide +kernel) ⟨Nat.le_of_ble_eq_true rfl, Nat.le_of_ble_eq_true rfl⟩), hts _ wd9_1, hts _ wd9_2⟩ (pv hK hP hD hS hA hX [4, 5] rfl rfl 3 4 rfl rfl) rfl rfl hl.1 rfl (lv_room (Nat.le_of_ble_eq_true rfl)) dX0_findDog_197 ⟨Nat.zero_le _, Nat.zero_le _⟩) hP hD hS hA [4, 5] rfl rfl (fun _ => (rfl : ([a 4, a 5] : List Nat) = [a 4, a 5])) ?_
      rintro _u9 H locs - hP hD hS
      have hP : va_P g vwCl [(a 0, .inr (0, [.ref (a 1), .ref (a 4), .ref (a 6), .ref (a 8), .ref (a 9), .int (nI (σ 2)), .int (nI (σ 3)), .int (nI (σ 4 + sm (shr σ d9 f9 c9) 8)), .int (nI ((σ 5) + (dg σ d9 4 - sm (shr σ d9 f9 c9) 8))), .int (nI (σ 6)), .int (nI (σ 7))])), (a 1, .inr (2, [.ref (a 2), .ref (a 3), .int (nI (cmk σ))])), aI cy (a 2) 144 (wv σ), aI cy (a 3) 12 (b 1), (a 4, .inr (3, [.int (nI 6), .int (nI 11), .ref (a 5), .int (nI (σ 0))])), aI cy (a 5) 66 (putR (upd (upd (upd (upd (upd (b 2) (d9 * 11 + 5) (nI 0)) (d9 * 11 + 6) (nI c9)) (d9 * 11 + 7) (nI f9)) (d9 * 11 + 8) (nI (σ 2))) (d9 * 11 + 9) (nI (mk (trD σ d9) (σ 1)))) 11 (σ 0) (nI d9) 10 (nI (mk (frD σ d9) (σ 1)))), (a 6, .inr (3, [.int (nI 20), .int (nI 6), .ref (a 7), .int (nI (σ 1))])), aI cy (a 7) 120 (b 3), aI cy (a 8) 8 (mS (puI σ d9 f9 c9 8)), aI cy (a 9) 6 (b 5)] H := hP
      have hD : va_D A [(a 0, .inr (0, [.ref (a 1), .ref (a 4), .ref (a 6), .ref (a 8), .ref (a 9), .int (nI (σ 2)), .int (nI (σ 3)), .int (nI (σ 4 + sm (shr σ d9 f9 c9) 8)), .int (nI ((σ 5) + (dg σ d9 4 - sm (shr σ d9 f9 c9) 8))), .int (nI (σ 6)), .int (nI (σ 7))])), (a 1, .inr (2, [.ref (a 2), .ref (a 3), .int (nI (cmk σ))])), aI cy (a 2) 144 (wv σ), aI cy (a 3) 12 (b 1), (a 4, .inr (3, [.int (nI 6), .int (nI 11), .ref (a 5), .int (nI (σ 0))])), aI cy (a 5) 66 (putR (upd (upd (upd (upd (upd (b 2) (d9 * 11 + 5) (nI 0)) (d9 * 11 + 6) (nI c9)) (d9 * 11 + 7) (nI f9)) (d9 * 11 + 8) (nI (σ 2))) (d9 * 11 + 9) (nI (mk (trD σ d9) (σ 1)))) 11 (σ 0) (nI d9) 10 (nI (mk (frD σ d9) (σ 1)))), (a 6, .inr (3, [.int (nI 20), .int (nI 6), .ref (a 7), .int (nI (σ 1))])), aI cy (a 7) 120 (b 3), aI cy (a 8) 8 (mS (puI σ d9 f9 c9 8)), aI cy (a 9) 6 (b 5)] := hD
      show W _ _ _ _ _ _ _ _ _ _ _ _ _ _ _ (F0 mX 200 ls [])
      rw [putR_n (j := d9) (by omega) (by omega)] at hP hD
      have hP : va_P g vwCl [(a 0, .inr (0, [.ref (a 1), .ref (a 4), .ref (a 6), .ref (a 8), .ref (a 9), .int (nI (σ 2)), .int (nI (σ 3)), .int (nI (σ 4 + sm (shr σ d9 f9 c9) 8)), .int (nI ((σ 5) + (dg σ d9 4 - sm (shr σ d9 f9 c9) 8))), .int (nI (σ 6)), .int (nI (σ 7))])), (a 1, .inr (2, [.ref (a 2), .ref (a 3), .int (nI (cmk σ))])), aI cy (a 2) 144 (wv σ), aI cy (a 3) 12 (b 1), (a 4, .inr (3, [.int (nI 6), .int (nI 11), .ref (a 5), .int (nI (σ 0))])), aI cy (a 5) 66 (upd (upd (upd (upd (upd (upd (b 2) (d9 * 11 + 5) (nI 0)) (d9 * 11 + 6) (nI c9)) (d9 * 11 + 7) (nI f9)) (d9 * 11 + 8) (nI (σ 2))) (d9 * 11 + 9) (nI (mk (trD σ d9) (σ 1)))) (d9 * 11 + 10) (nI (mk (frD σ d9) (σ 1)))), (a 6, .inr (3, [.int (nI 20), .int (nI 6), .ref (a 7), .int (nI (σ 1))])), aI cy (a 7) 120 (b 3), aI cy (a 8) 8 (mS (puI σ d9 f9 c9 8)), aI cy (a 9) 6 (b 5)] H := hP
      have hD : va_D A [(a 0, .inr (0, [.ref (a 1), .ref (a 4), .ref (a 6), .ref (a 8), .ref (a 9), .int (nI (σ 2)), .int (nI (σ 3)), .int (nI (σ 4 + sm (shr σ d9 f9 c9) 8)), .int (nI ((σ 5) + (dg σ d9 4 - sm (shr σ d9 f9 c9) 8))), .int (nI (σ 6)), .int (nI (σ 7))])), (a 1, .inr (2, [.ref (a 2), .ref (a 3), .int (nI (cmk σ))])), aI cy (a 2) 144 (wv σ), aI cy (a 3) 12 (b 1), (a 4, .inr (3, [.int (nI 6), .int (nI 11), .ref (a 5), .int (nI (σ 0))])), aI cy (a 5) 66 (upd (upd (upd (upd (upd (upd (b 2) (d9 * 11 + 5) (nI 0)) (d9 * 11 + 6) (nI c9)) (d9 * 11 + 7) (nI f9)) (d9 * 11 + 8) (nI (σ 2))) (d9 * 11 + 9) (nI (mk (trD σ d9) (σ 1)))) (d9 * 11 + 10) (nI (mk (frD σ d9) (σ 1)))), (a 6, .inr (3, [.int (nI 20), .int (nI 6), .ref (a 7), .int (nI (σ 1))])), aI cy (a 7) 120 (b 3), aI cy (a 8) 8 (mS (puI σ d9 f9 c9 8)), aI cy (a 9) 6 (b 5)] := hD
      refine lv_aload_n hx hb dX0_findDog_200 rfl (lv_at hl 0 rfl) ?_
      refine lv_iload_n hx hb dX0_findDog_201 rfl (lv_at hl 2 rfl) ?_
      refine rd_call (va_runV (As := [.int (nI f9)]) (rest := []) ⟨hx, hb, hml, hown, hts⟩ (c_X0_coinsOf2 l g cy  H.size a (σ 2) (σ 3) (σ 4 + sm (shr σ d9 f9 c9) 8) ((σ 5) + (dg σ d9 4 - sm (shr σ d9 f9 c9) 8)) (σ 6) (σ 7) (puI σ d9 f9 c9 8) f9 (by omega)) ⟨(cB 1 hts wd16_13 wd1_12 wd16_10 rfl rfl (by decide +kernel) ⟨Nat.le_of_ble_eq_true rfl, Nat.le_of_ble_eq_true rfl⟩), hts _ wd16_11, hts _ wd16_12⟩ (pv hK hP hD hS hA hX [0, 8] rfl rfl 0 0 rfl rfl) rfl rfl hl.1 rfl (lv_room (Nat.le_of_ble_eq_true rfl)) dX0_findDog_202 ⟨Nat.zero_le _, Nat.zero_le _⟩) ?_
      show W _ _ _ _ _ _ _ _ _ _ _ _ _ _ _ (F0 mX 205 ls [.int (nI ((puI σ d9 f9 c9 8) f9))])
      refine lv_iload hx hb dX0_findDog_205 (lv_at hl 7 rfl) ?_
      refine lv_isub hx hb dX0_findDog_207 ?_
      refine ti (show ((nI ((puI σ d9 f9 c9 8) f9)) - (nI (σ (8 + f9)))) = (nI (shr σ d9 f9 c9 f9)) from (by rw [puI_8 hf9, pk_sub (Nat.le_add_right _ _), Nat.add_sub_cancel_left])) ?_
      have hlo : ∀ i, 16 ≤ i → i < 40 → findS σ d9 f9 c9 i = σ i := (fun i h1 h2 => findS_lo h1 h2)
      obtain ⟨hP, hD⟩ := arr_c (wv (findS σ d9 f9 c9)) hP hD 2 rfl (wv_cl (cmk_of hlo))
      obtain ⟨hP, hD⟩ := arr_c (mS (pu (findS σ d9 f9 c9))) hP hD 8 rfl (fun j hj => by show nI (puI σ d9 f9 c9 8 j) = nI (findS σ d9 f9 c9 (8 + j)); rw [puI_8 hj, findS_pu hj])
      have e0 : findS σ d9 f9 c9 0 = σ 0 := rfl
      have e1 : findS σ d9 f9 c9 1 = σ 1 := rfl
      have e2 : findS σ d9 f9 c9 2 = σ 2 := rfl
      have e3 : findS σ d9 f9 c9 3 = σ 3 := rfl
      have e4 : findS σ d9 f9 c9 4 = σ 4 + sm (shr σ d9 f9 c9) 8 := rfl
      have e5 : findS σ d9 f9 c9 5 = σ 5 + (dg σ d9 4 - sm (shr σ d9 f9 c9) 8) := rfl
      have e6 : findS σ d9 f9 c9 6 = σ 6 := rfl
      have e7 : findS σ d9 f9 c9 7 = σ 7 := rfl
      exact wr_i (bs b 2 (fdD (b 2) d9 c9 f9 (σ 2) (mk (trD σ d9) (σ 1)) (mk (frD σ d9) (σ 1)))) (by rw [hs9.2]) (by rw [hs9.1]; exact BR_find hbr hn0 hd9 hc9) (by rw [hs9.1, cmk_of hlo, e0, e1, e2, e3, e4, e5, e6, e7]; exact hP) hS hx hb hr dX0_findDog_208 hlk
    · have c_67 := (nc_nle (by omega) (by omega) c_67)
      refine lv_aload_n hx hb dX0_findDog_70 rfl (lv_at hl 0 rfl) ?_
      refine lv_iload_n hx hb dX0_findDog_71 rfl (lv_at hl 1 rfl) ?_
      refine lv_iload hx hb dX0_findDog_72 (lv_at hl 6 rfl) ?_
      refine lv_iload_n hx hb dX0_findDog_74 rfl (lv_at hl 2 rfl) ?_
      refine lv_iload_n hx hb dX0_findDog_75 rfl (lv_at hl 3 rfl) ?_
      refine lv_iload hx hb dX0_findDog_76 (lv_at hl 9 rfl) ?_
      refine rd_call (va_runV (As := [.int (nI d9), .int (nI (mk (hon σ d9) (σ 1))), .int (nI f9), .int (nI c9), .int (nI i)]) (rest := []) ⟨hx, hb, hml, hown, hts⟩ (c_X0_shareBy2 l g cy  H.size a σ b bd (σ 3) (σ 4 + sm (shr σ d9 f9 c9) i) (σ 5) d9 (mk (hon σ d9) (σ 1)) f9 c9 i hwf hbr (by omega) rfl (by omega) (by omega) (by omega)) ⟨(cB 5 hts wd16_17 wd1_12 wd16_14 rfl rfl (by decide +kernel) ⟨Nat.le_of_ble_eq_true rfl, Nat.le_of_ble_eq_true rfl⟩), hts _ wd16_15, hts _ wd16_16⟩ (pv hK hP hD hS hA hX [0, 1, 2, 3, 4, 5, 6, 7, 9] rfl rfl 0 0 rfl rfl) rfl rfl hl.1 rfl (lv_room (Nat.le_of_ble_eq_true rfl)) dX0_findDog_78 ⟨Nat.zero_le _, Nat.zero_le _⟩) ?_
      show W _ _ _ _ _ _ _ _ _ _ _ _ _ _ _ (F0 mX 81 ls [.int (nI (shr σ d9 f9 c9 i))])
      refine lv_istore (lv' := [(10, .int (nI (shr σ d9 f9 c9 i))), (0, .ref (a 0)), (1, .int (nI d9)), (2, .int (nI f9)), (3, .int (nI c9)), (4, .int (nI (mk (trD σ d9) (σ 1)))), (5, .int (nI (mk (frD σ d9) (σ 1)))), (6, .int (nI (mk (hon σ d9) (σ 1)))), (7, .int (nI (σ (8 + f9)))), (8, .int (nI (dg σ d9 4 - sm (shr σ d9 f9 c9) i))), (9, .int (nI i))]) hx hb dX0_findDog_81 hl (by decide) rfl (fun ls hl => ?_)
      refine lv_aload_n hx hb dX0_findDog_83 rfl (lv_at hl 1 rfl) ?_
      refine va_get (D := g) (ci := 0) (v := .ref (a 8)) (C := RX0) (T := TX0) (N := 11) hx hb hts bgX0 hown hK hP 0 rfl rfl 3 (by decide) (hts _ wd2_15) (fun _ h9 => h9) rfl dX0_findDog_84 ?_
      refine lv_iload hx hb dX0_findDog_87 (lv_at hl 10 rfl) ?_
      refine lv_dup2_11 hx hb dX0_findDog_89 rfl rfl ?_
      refine va_iald hx hb hK hP 8 0 rfl rfl (vp_in_nI (n := i) (by omega) (by omega)) dX0_findDog_90 ?_
      refine ti (show (mS (puI σ d9 f9 c9 i)) (nI i).toNatClampNeg = nI ((puI σ d9 f9 c9 i) i) from by rw [nI_clamp (by omega)]; rfl) ?_
      refine ti (show (nI ((puI σ d9 f9 c9 i) i)) = (nI (σ (8 + i))) from (congrArg nI puI_i)) ?_
      refine lv_iload hx hb dX0_findDog_91 (lv_at hl 0 rfl) ?_
      refine lv_iadd hx hb dX0_findDog_93 ?_
      refine ti (nI_add (σ (8 + i)) (shr σ d9 f9 c9 i)) ?_
      refine va_iast hx hb hK hP hD hS 8 0 rfl rfl (vp_in_nI (n := i) (by omega) (by omega)) dX0_findDog_94 (fun H locs hP hD hS => ?_)
      rw [nI_clamp (n := i) (by omega)] at hP hD
      rw [mS_up] at hP hD
      have hP : va_P g vwCl [(a 0, .inr (0, [.ref (a 1), .ref (a 4), .ref (a 6), .ref (a 8), .ref (a 9), .int (nI (σ 2)), .int (nI (σ 3)), .int (nI (σ 4 + sm (shr σ d9 f9 c9) i)), .int (nI (σ 5)), .int (nI (σ 6)), .int (nI (σ 7))])), (a 1, .inr (2, [.ref (a 2), .ref (a 3), .int (nI (cmk σ))])), aI cy (a 2) 144 (wv σ), aI cy (a 3) 12 (b 1), (a 4, .inr (3, [.int (nI 6), .int (nI 11), .ref (a 5), .int (nI (σ 0))])), aI cy (a 5) 66 (b 2), (a 6, .inr (3, [.int (nI 20), .int (nI 6), .ref (a 7), .int (nI (σ 1))])), aI cy (a 7) 120 (b 3), aI cy (a 8) 8 (mS (up (puI σ d9 f9 c9 i) i ((σ (8 + i)) + (shr σ d9 f9 c9 i)))), aI cy (a 9) 6 (b 5)] H := hP
      have hD : va_D A [(a 0, .inr (0, [.ref (a 1), .ref (a 4), .ref (a 6), .ref (a 8), .ref (a 9), .int (nI (σ 2)), .int (nI (σ 3)), .int (nI (σ 4 + sm (shr σ d9 f9 c9) i)), .int (nI (σ 5)), .int (nI (σ 6)), .int (nI (σ 7))])), (a 1, .inr (2, [.ref (a 2), .ref (a 3), .int (nI (cmk σ))])), aI cy (a 2) 144 (wv σ), aI cy (a 3) 12 (b 1), (a 4, .inr (3, [.int (nI 6), .int (nI 11), .ref (a 5), .int (nI (σ 0))])), aI cy (a 5) 66 (b 2), (a 6, .inr (3, [.int (nI 20), .int (nI 6), .ref (a 7), .int (nI (σ 1))])), aI cy (a 7) 120 (b 3), aI cy (a 8) 8 (mS (up (puI σ d9 f9 c9 i) i ((σ (8 + i)) + (shr σ d9 f9 c9 i)))), aI cy (a 9) 6 (b 5)] := hD
      rw [show mS (up (puI σ d9 f9 c9 i) i ((σ (8 + i)) + (shr σ d9 f9 c9 i))) = (mS (puI σ d9 f9 c9 (i + 1))) from (congrArg mS puI_s)] at hP hD
      refine lv_aload_n hx hb dX0_findDog_95 rfl (lv_at hl 1 rfl) ?_
      refine lv_dup hx hb dX0_findDog_96 rfl ?_
      refine va_get (D := g) (ci := 0) (v := .int (nI (σ 4 + sm (shr σ d9 f9 c9) i))) (C := RX0) (T := TX0) (N := 11) hx hb hts bgX0 hown hK hP 0 rfl rfl 7 (by decide) (hts _ wd4_2) (fun _ h9 => h9) rfl dX0_findDog_97 ?_
      refine lv_iload hx hb dX0_findDog_100 (lv_at hl 0 rfl) ?_
      refine lv_iadd hx hb dX0_findDog_102 ?_
      refine ti (nI_add (σ 4 + sm (shr σ d9 f9 c9) i) (shr σ d9 f9 c9 i)) ?_
      refine va_put (D := g) (ci := 0) (v := .int (nI ((σ 4 + sm (shr σ d9 f9 c9) i) + (shr σ d9 f9 c9 i)))) (ty := .int) (C := RX0) (T := TX0) (N := 11) hx hb hts bgX0 tyX0 tyX0_ok nmX0 hown hK hP hD hS 0 rfl rfl 7 (by decide) (hts _ wd4_2) (fun _ h9 => h9) rfl (by decide +kernel) rfl rfl (Nat.le_of_ble_eq_true rfl) dX0_findDog_103 (fun H locs hP hD hS => ?_)
      have hP : va_P g vwCl [(a 0, .inr (0, [.ref (a 1), .ref (a 4), .ref (a 6), .ref (a 8), .ref (a 9), .int (nI (σ 2)), .int (nI (σ 3)), .int (nI ((σ 4 + sm (shr σ d9 f9 c9) i) + (shr σ d9 f9 c9 i))), .int (nI (σ 5)), .int (nI (σ 6)), .int (nI (σ 7))])), (a 1, .inr (2, [.ref (a 2), .ref (a 3), .int (nI (cmk σ))])), aI cy (a 2) 144 (wv σ), aI cy (a 3) 12 (b 1), (a 4, .inr (3, [.int (nI 6), .int (nI 11), .ref (a 5), .int (nI (σ 0))])), aI cy (a 5) 66 (b 2), (a 6, .inr (3, [.int (nI 20), .int (nI 6), .ref (a 7), .int (nI (σ 1))])), aI cy (a 7) 120 (b 3), aI cy (a 8) 8 (mS (puI σ d9 f9 c9 (i + 1))), aI cy (a 9) 6 (b 5)] H := hP
      have hD : va_D A [(a 0, .inr (0, [.ref (a 1), .ref (a 4), .ref (a 6), .ref (a 8), .ref (a 9), .int (nI (σ 2)), .int (nI (σ 3)), .int (nI ((σ 4 + sm (shr σ d9 f9 c9) i) + (shr σ d9 f9 c9 i))), .int (nI (σ 5)), .int (nI (σ 6)), .int (nI (σ 7))])), (a 1, .inr (2, [.ref (a 2), .ref (a 3), .int (nI (cmk σ))])), aI cy (a 2) 144 (wv σ), aI cy (a 3) 12 (b 1), (a 4, .inr (3, [.int (nI 6), .int (nI 11), .ref (a 5), .int (nI (σ 0))])), aI cy (a 5) 66 (b 2), (a 6, .inr (3, [.int (nI 20), .int (nI 6), .ref (a 7), .int (nI (σ 1))])), aI cy (a 7) 120 (b 3), aI cy (a 8) 8 (mS (puI σ d9 f9 c9 (i + 1))), aI cy (a 9) 6 (b 5)] := hD
      rw [show (nI ((σ 4 + sm (shr σ d9 f9 c9) i) + (shr σ d9 f9 c9 i))) = (nI (σ 4 + sm (shr σ d9 f9 c9) (i + 1))) from (congrArg nI (Nat.add_assoc _ _ _))] at hP hD
      refine lv_iload hx hb dX0_findDog_106 (lv_at hl 9 rfl) ?_
      refine lv_iload hx hb dX0_findDog_108 (lv_at hl 0 rfl) ?_
      have hle9 := shr_le (d := d9) (c := c9) (k := i + 1) hwf hf9 (by omega)
      have hle8 : sm (shr σ d9 f9 c9) (i + 1) = sm (shr σ d9 f9 c9) i + shr σ d9 f9 c9 i := rfl
      refine lv_isub hx hb dX0_findDog_110 ?_
      refine ti (show ((nI (dg σ d9 4 - sm (shr σ d9 f9 c9) i)) - (nI (shr σ d9 f9 c9 i))) = (nI (dg σ d9 4 - sm (shr σ d9 f9 c9) (i + 1))) from (by rw [pk_sub (by omega), Nat.sub_sub]; rfl)) ?_
      refine lv_istore (lv' := [(8, .int (nI (dg σ d9 4 - sm (shr σ d9 f9 c9) (i + 1)))), (10, .int (nI (shr σ d9 f9 c9 i))), (0, .ref (a 0)), (1, .int (nI d9)), (2, .int (nI f9)), (3, .int (nI c9)), (4, .int (nI (mk (trD σ d9) (σ 1)))), (5, .int (nI (mk (frD σ d9) (σ 1)))), (6, .int (nI (mk (hon σ d9) (σ 1)))), (7, .int (nI (σ (8 + f9)))), (9, .int (nI i))]) hx hb dX0_findDog_111 hl (by decide) rfl (fun ls hl => ?_)
      refine lv_iinc (v := (nI (i + 1))) (lv' := [(9, .int (nI (i + 1))), (8, .int (nI (dg σ d9 4 - sm (shr σ d9 f9 c9) (i + 1)))), (10, .int (nI (shr σ d9 f9 c9 i))), (0, .ref (a 0)), (1, .int (nI d9)), (2, .int (nI f9)), (3, .int (nI c9)), (4, .int (nI (mk (trD σ d9) (σ 1)))), (5, .int (nI (mk (frD σ d9) (σ 1)))), (6, .int (nI (mk (hon σ d9) (σ 1)))), (7, .int (nI (σ (8 + f9))))]) hx hb dX0_findDog_113 hl (k := 10) rfl (nI_add i 1) (by decide) rfl (fun ls hl => ?_)
      refine lv_goto (tgt := 60) hx hb dX0_findDog_116 (by decide) ?_
      exact ih60 (i + 1) H locs ls ⟨hP, hD, hS, lv_sub hl [3, 4, 5, 6, 7, 8, 9, 10, 1, 0] rfl, (by omega)⟩ (by first | omega | (dsimp only; omega))
  · have c_7 := (nz_ne c_7 (by omega))
    refine lv_bipush (v := (nI NN2)) hx hb dX0_findDog_10 (by decide) ?_
    exact wr_i b (by rw [show findA σ vd vf vc = NN2 from if_neg c_7]) (by rw [show findR σ vd vf vc = σ from if_neg c_7]; exact hbr) (by rw [show findR σ vd vf vc = σ from if_neg c_7]; exact hP) hS hx hb hr dX0_findDog_12 hlk
