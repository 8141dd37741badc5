set_option maxHeartbeats 4000000 in
set_option maxRecDepth 100000 in
theorem c_X8_readLose (l : Launch) (g : va_G) (cy : Nat → ClassId) (mo a1 a2 a3 a4 a5 a6 mw mh sa : Nat) (sz : Nat) (rf : Nat) (ln : Nat) (ac : Nat) (p : Nat) (ou : Nat) (tx : Nat → Nat) (wy : Nat → Nat) (w9 : Nat → Nat) (σ : Nat → Nat) (bd : Nat) (hwf : WF bd σ) (htx : ∀ i9, tx i9 < 256) (hln : ln ≤ 120) (hpp : p ≤ 400) : Met l yX8_readLose (Cond.code yX8_readLose cX8_readLose 6 (some .boolean) :: wsL_law) ({ frames := 3, cells := 0, slots := 0, locals := 74 } : Room) (va_Pc [.ref mo, .ref sa] (pr g cy [(mo, .inr (6, [.int (nI rf), .ref a1, .int (nI ln), .ref a2, .ref a3, .ref a4, .int (nI ac), .ref a5, .ref a6, .ref mw, .ref mh, .int (nI p), .int (nI ou)])), aI cy a1 120 (mS tx), aI cy mw 144 (mS wy), aI cy mh 8 (mS w9), aI cy sa 248 (mS σ)] sz)) (wr_Q (fun u9 : (Bool × Nat × (Nat → Nat)) × (Nat → Nat) × (Nat) × (Nat → Nat) × (Nat → Nat) => (some (.int (bI u9.1.1)))) (fun u9 : (Bool × Nat × (Nat → Nat)) × (Nat → Nat) × (Nat) × (Nat → Nat) × (Nat → Nat) => (u9.1 = rdL tx ln lsD9 p 0 z9) ∧ (u9.1.1 = true → u9.2.1 = doR 100 u9.1.2.2 σ ∧ u9.2.2.1 = ou + (if nI (doA 100 u9.1.2.2 σ) = nI NN2 then 1 else 0))) (fun u9 : (Bool × Nat × (Nat → Nat)) × (Nat → Nat) × (Nat) × (Nat → Nat) × (Nat → Nat) => [(mo, .inr (6, [.int (nI rf), .ref a1, .int (nI ln), .ref a2, .ref a3, .ref a4, .int (nI ac), .ref a5, .ref a6, .ref mw, .ref mh, .int (nI u9.1.2.1), .int (nI u9.2.2.1)])), aI cy a1 120 (mS tx), aI cy mw 144 (mS u9.2.2.2.1), aI cy mh 8 (mS u9.2.2.2.2), aI cy sa 248 (mS u9.2.1)]) g (va_A [(mo, .inr (6, [.int (nI rf), .ref a1, .int (nI ln), .ref a2, .ref a3, .ref a4, .int (nI ac), .ref a5, .ref a6, .ref mw, .ref mh, .int (nI p), .int (nI ou)])), aI cy a1 120 (mS tx), aI cy mw 144 (mS wy), aI cy mh 8 (mS w9), aI cy sa 248 (mS σ)] sz)) 0 0 (va_A [(mo, .inr (6, [.int (nI rf), .ref a1, .int (nI ln), .ref a2, .ref a3, .ref a4, .int (nI ac), .ref a5, .ref a6, .ref mw, .ref mh, .int (nI p), .int (nI ou)])), aI cy a1 120 (mS tx), aI cy mw 144 (mS wy), aI cy mh 8 (mS w9), aI cy sa 248 (mS σ)] sz) := by
  refine mt_of (cc := cX8_readLose) (maxL := 6) (ret := (some .boolean)) (by decide +kernel) (Nat.le_of_ble_eq_true rfl) ?_
  intro pX eX s mX below meth cX ls A hx hb hr hml hown hts hlk hin hsz hAe hA hP hD hK hX hl
  subst hsz
  rw [← hAe]
  clear hAe
  have hl : lv_has ls 6 [(0, .ref mo), (1, .ref sa)] := hl
  have hS : va_S A s.heap s.heap [] := va_S.rf
  have hn0 := hwf.n0
  have hn1 := hwf.n1
  have hh2 := hwf.h2
  refine lv_aload_n hx hb dX8_readLose_0 rfl (lv_at hl 0 rfl) ?_
  refine lv_iconst (v := (nI 0)) hx hb dX8_readLose_1 (by decide) ?_
  refine lv_bipush (v := (nI 100)) hx hb dX8_readLose_2 (by decide) ?_
  refine lv_iconst (v := (nI 1)) hx hb dX8_readLose_4 (by decide) ?_
  refine lv_sipush (v := (nI 255)) hx hb dX8_readLose_5 (by decide) ?_
  refine wr_call (wc := [(mo, .inr (6, [.int (nI rf), .ref a1, .int (nI ln), .ref a2, .ref a3, .ref a4, .int (nI ac), .ref a5, .ref a6, .ref mw, .ref mh, .int (nI p), .int (nI ou)])), aI cy a1 120 (mS tx)]) (va_runV (As := [.int (nI 0), .int (nI 100), .int (nI 1), .int (nI 255)]) (rest := []) ⟨hx, hb, hml, hown, hts⟩ (c_X8_figures l g cy mo a1 a2 a3 a4 a5 a6 mw mh s.heap.size rf ln ac p ou tx 0 3 100 1 255 htx (by omega) (by omega) ⟨Or.inr (by decide), by decide⟩ (by omega) (by omega) rfl (by omega) (by omega)) ⟨(cB 4 hts wd11_11 wd1_5 wd11_8 rfl rfl (by decide +kernel) ⟨Nat.le_of_ble_eq_true rfl, Nat.le_of_ble_eq_true rfl⟩), hts _ wd11_9, hts _ wd11_10⟩ (pv hK hP hD hS hA hX [0, 1] rfl rfl 6 0 rfl rfl) rfl rfl hl.1 rfl (lv_room (Nat.le_of_ble_eq_true rfl)) dX8_readLose_8 ⟨Nat.zero_le _, Nat.zero_le _⟩) hP hD hS hA [0, 1] rfl rfl (fun _ => (rfl : ([mo, a1] : List Nat) = [mo, a1])) ?_
  rintro r_8 H locs hr_8 hP hD hS
  have hP : va_P g vwCl [(mo, .inr (6, [.int (nI rf), .ref a1, .int (nI ln), .ref a2, .ref a3, .ref a4, .int (nI ac), .ref a5, .ref a6, .ref mw, .ref mh, .int (nI r_8.2), .int (nI ou)])), aI cy a1 120 (mS tx), aI cy mw 144 (mS wy), aI cy mh 8 (mS w9), aI cy sa 248 (mS σ)] H := hP
  have hD : va_D A [(mo, .inr (6, [.int (nI rf), .ref a1, .int (nI ln), .ref a2, .ref a3, .ref a4, .int (nI ac), .ref a5, .ref a6, .ref mw, .ref mh, .int (nI r_8.2), .int (nI ou)])), aI cy a1 120 (mS tx), aI cy mw 144 (mS wy), aI cy mh 8 (mS w9), aI cy sa 248 (mS σ)] := hD
  have hr_8 : r_8 = fgF tx ln 0 3 1 255 p := hr_8
  show W _ _ _ _ _ _ _ _ _ _ _ _ _ _ _ (F0 mX 11 ls [.int (nI r_8.1)])
  have hpv_8 := fg_p hr_8
  have hvv_8 := fg_v (by decide) hr_8
  refine lv_istore_n (lv' := [(2, .int (nI r_8.1)), (0, .ref mo), (1, .ref sa)]) hx hb dX8_readLose_11 rfl hl (by decide) rfl (fun ls hl => ?_)
  refine lv_aload_n hx hb dX8_readLose_12 rfl (lv_at hl 1 rfl) ?_
  refine lv_iload_n hx hb dX8_readLose_13 rfl (lv_at hl 0 rfl) ?_
  refine lv_iconst (v := (nI 1)) hx hb dX8_readLose_14 (by decide) ?_
  refine lv_iconst (v := (nI 1)) hx hb dX8_readLose_15 (by decide) ?_
  refine lv_iconst (v := (nI 3)) hx hb dX8_readLose_16 (by decide) ?_
  refine wr_call (wc := [(mo, .inr (6, [.int (nI rf), .ref a1, .int (nI ln), .ref a2, .ref a3, .ref a4, .int (nI ac), .ref a5, .ref a6, .ref mw, .ref mh, .int (nI r_8.2), .int (nI ou)])), aI cy a1 120 (mS tx)]) (va_runV (As := [.int (nI r_8.1), .int (nI 1), .int (nI 1), .int (nI 3)]) (rest := []) ⟨hx, hb, hml, hown, hts⟩ (c_X8_figures l g cy mo a1 a2 a3 a4 a5 a6 mw mh H.size rf ln ac r_8.2 ou tx r_8.1 1 1 1 3 htx (by omega) (by omega) (by omega) (by omega) (by omega) rfl (by omega) (by omega)) ⟨(cB 4 hts wd11_11 wd1_5 wd11_8 rfl rfl (by decide +kernel) ⟨Nat.le_of_ble_eq_true rfl, Nat.le_of_ble_eq_true rfl⟩), hts _ wd11_9, hts _ wd11_10⟩ (pv hK hP hD hS hA hX [0, 1] rfl rfl 6 0 rfl rfl) rfl rfl hl.1 rfl (lv_room (Nat.le_of_ble_eq_true rfl)) dX8_readLose_17 ⟨Nat.zero_le _, Nat.zero_le _⟩) hP hD hS hA [0, 1] rfl rfl (fun _ => (rfl : ([mo, a1] : List Nat) = [mo, a1])) ?_
  rintro r_17 H locs hr_17 hP hD hS
  have hP : va_P g vwCl [(mo, .inr (6, [.int (nI rf), .ref a1, .int (nI ln), .ref a2, .ref a3, .ref a4, .int (nI ac), .ref a5, .ref a6, .ref mw, .ref mh, .int (nI r_17.2), .int (nI ou)])), aI cy a1 120 (mS tx), aI cy mw 144 (mS wy), aI cy mh 8 (mS w9), aI cy sa 248 (mS σ)] H := hP
  have hD : va_D A [(mo, .inr (6, [.int (nI rf), .ref a1, .int (nI ln), .ref a2, .ref a3, .ref a4, .int (nI ac), .ref a5, .ref a6, .ref mw, .ref mh, .int (nI r_17.2), .int (nI ou)])), aI cy a1 120 (mS tx), aI cy mw 144 (mS wy), aI cy mh 8 (mS w9), aI cy sa 248 (mS σ)] := hD
  have hr_17 : r_17 = fgF tx ln r_8.1 1 1 3 r_8.2 := hr_17
  show W _ _ _ _ _ _ _ _ _ _ _ _ _ _ _ (F0 mX 20 ls [.int (nI r_17.1)])
  have hpv_17 := fg_p hr_17
  have hvv_17 := fg_v (by decide) hr_17
  refine lv_istore_n (lv' := [(3, .int (nI r_17.1)), (2, .int (nI r_8.1)), (0, .ref mo), (1, .ref sa)]) hx hb dX8_readLose_20 rfl hl (by decide) rfl (fun ls hl => ?_)
  refine lv_aload_n hx hb dX8_readLose_21 rfl (lv_at hl 2 rfl) ?_
  refine lv_iload_n hx hb dX8_readLose_22 rfl (lv_at hl 0 rfl) ?_
  refine wr_call (wc := [(mo, .inr (6, [.int (nI rf), .ref a1, .int (nI ln), .ref a2, .ref a3, .ref a4, .int (nI ac), .ref a5, .ref a6, .ref mw, .ref mh, .int (nI r_17.2), .int (nI ou)])), aI cy a1 120 (mS tx)]) (va_runV (As := [.int (nI r_17.1)]) (rest := []) ⟨hx, hb, hml, hown, hts⟩ (c_X8_cornerSign l g cy mo a1 a2 a3 a4 a5 a6 mw mh H.size rf ln ac r_17.2 ou tx r_17.1 htx (by omega) (by omega) (by omega)) ⟨(cB 1 hts wd11_16 wd1_5 wd11_13 rfl rfl (by decide +kernel) ⟨Nat.le_of_ble_eq_true rfl, Nat.le_of_ble_eq_true rfl⟩), hts _ wd11_14, hts _ wd11_15⟩ (pv hK hP hD hS hA hX [0, 1] rfl rfl 6 0 rfl rfl) rfl rfl hl.1 rfl (lv_room (Nat.le_of_ble_eq_true rfl)) dX8_readLose_23 ⟨Nat.zero_le _, Nat.zero_le _⟩) hP hD hS hA [0, 1] rfl rfl (fun _ => (rfl : ([mo, a1] : List Nat) = [mo, a1])) ?_
  rintro r_23 H locs hr_23 hP hD hS
  have hP : va_P g vwCl [(mo, .inr (6, [.int (nI rf), .ref a1, .int (nI ln), .ref a2, .ref a3, .ref a4, .int (nI ac), .ref a5, .ref a6, .ref mw, .ref mh, .int (nI r_23.2), .int (nI ou)])), aI cy a1 120 (mS tx), aI cy mw 144 (mS wy), aI cy mh 8 (mS w9), aI cy sa 248 (mS σ)] H := hP
  have hD : va_D A [(mo, .inr (6, [.int (nI rf), .ref a1, .int (nI ln), .ref a2, .ref a3, .ref a4, .int (nI ac), .ref a5, .ref a6, .ref mw, .ref mh, .int (nI r_23.2), .int (nI ou)])), aI cy a1 120 (mS tx), aI cy mw 144 (mS wy), aI cy mh 8 (mS w9), aI cy sa 248 (mS σ)] := hD
  have hr_23 : r_23 = fgF tx ln r_17.1 2 0 11 r_17.2 := hr_23
  show W _ _ _ _ _ _ _ _ _ _ _ _ _ _ _ (F0 mX 26 ls [.int (nI r_23.1)])
  have hpv_23 := fg_p hr_23
  have hvv_23 := fg_v (by decide) hr_23
  refine lv_istore (lv' := [(4, .int (nI r_23.1)), (3, .int (nI r_17.1)), (2, .int (nI r_8.1)), (0, .ref mo), (1, .ref sa)]) hx hb dX8_readLose_26 hl (by decide) rfl (fun ls hl => ?_)
  refine lv_aload_n hx hb dX8_readLose_28 rfl (lv_at hl 3 rfl) ?_
  refine lv_iload hx hb dX8_readLose_29 (lv_at hl 0 rfl) ?_
  refine lv_bipush (v := (nI 100)) hx hb dX8_readLose_31 (by decide) ?_
  refine lv_iconst (v := (nI 1)) hx hb dX8_readLose_33 (by decide) ?_
  refine lv_sipush (v := (nI 500)) hx hb dX8_readLose_34 (by decide) ?_
  refine wr_call (wc := [(mo, .inr (6, [.int (nI rf), .ref a1, .int (nI ln), .ref a2, .ref a3, .ref a4, .int (nI ac), .ref a5, .ref a6, .ref mw, .ref mh, .int (nI r_23.2), .int (nI ou)])), aI cy a1 120 (mS tx)]) (va_runV (As := [.int (nI r_23.1), .int (nI 100), .int (nI 1), .int (nI 500)]) (rest := []) ⟨hx, hb, hml, hown, hts⟩ (c_X8_figures l g cy mo a1 a2 a3 a4 a5 a6 mw mh H.size rf ln ac r_23.2 ou tx r_23.1 3 100 1 500 htx (by omega) (by omega) (by omega) (by omega) (by omega) rfl (by omega) (by omega)) ⟨(cB 4 hts wd11_11 wd1_5 wd11_8 rfl rfl (by decide +kernel) ⟨Nat.le_of_ble_eq_true rfl, Nat.le_of_ble_eq_true rfl⟩), hts _ wd11_9, hts _ wd11_10⟩ (pv hK hP hD hS hA hX [0, 1] rfl rfl 6 0 rfl rfl) rfl rfl hl.1 rfl (lv_room (Nat.le_of_ble_eq_true rfl)) dX8_readLose_37 ⟨Nat.zero_le _, Nat.zero_le _⟩) hP hD hS hA [0, 1] rfl rfl (fun _ => (rfl : ([mo, a1] : List Nat) = [mo, a1])) ?_
  rintro r_37 H locs hr_37 hP hD hS
  have hP : va_P g vwCl [(mo, .inr (6, [.int (nI rf), .ref a1, .int (nI ln), .ref a2, .ref a3, .ref a4, .int (nI ac), .ref a5, .ref a6, .ref mw, .ref mh, .int (nI r_37.2), .int (nI ou)])), aI cy a1 120 (mS tx), aI cy mw 144 (mS wy), aI cy mh 8 (mS w9), aI cy sa 248 (mS σ)] H := hP
  have hD : va_D A [(mo, .inr (6, [.int (nI rf), .ref a1, .int (nI ln), .ref a2, .ref a3, .ref a4, .int (nI ac), .ref a5, .ref a6, .ref mw, .ref mh, .int (nI r_37.2), .int (nI ou)])), aI cy a1 120 (mS tx), aI cy mw 144 (mS wy), aI cy mh 8 (mS w9), aI cy sa 248 (mS σ)] := hD
  have hr_37 : r_37 = fgF tx ln r_23.1 3 1 500 r_23.2 := hr_37
  show W _ _ _ _ _ _ _ _ _ _ _ _ _ _ _ (F0 mX 40 ls [.int (nI r_37.1)])
  have hpv_37 := fg_p hr_37
  have hvv_37 := fg_v (by decide) hr_37
  have hrd := rd4 (x1 := (3, 1, 255)) (x2 := (1, 1, 3)) (x3 := (2, 0, 11)) (x4 := (3, 1, 500)) (f := z9) (by decide) (by decide) (by decide) (by decide) hr_8 hr_17 hr_23 hr_37
  rw [show [(3, 1, 255), (1, 1, 3), (2, 0, 11), (3, 1, 500)] = lsD9 from rfl] at hrd
  refine lv_istore (lv' := [(5, .int (nI r_37.1)), (4, .int (nI r_23.1)), (3, .int (nI r_17.1)), (2, .int (nI r_8.1)), (0, .ref mo), (1, .ref sa)]) hx hb dX8_readLose_40 hl (by decide) rfl (fun ls hl => ?_)
  refine lv_iload hx hb dX8_readLose_42 (lv_at hl 0 rfl) ?_
  refine lv_iconst (v := (nI NN)) hx hb dX8_readLose_44 (by decide) ?_
  refine lv_icmp_eq (tgt := 85) hx hb dX8_readLose_45 (by decide) (fun c_45 => ?_) (fun c_45 => ?_)
  · have c_45 := (nc_eq9 (by omega) (by decide) c_45)
    refine lv_iconst (v := (nI 0)) hx hb dX8_readLose_85 (by decide) ?_
    exact wr_z (b := false) ((rdL tx ln lsD9 p 0 z9), σ, ou, wy, w9) rfl (by dsimp only; rw [hrd.1, nn9_f c_45]) ⟨rfl, (fun h9 => absurd h9 (by dsimp only; rw [hrd.1, nn9_f c_45]; decide))⟩ (by dsimp only; rw [hrd.2.1]; exact hP) hS hx hb hr dX8_readLose_86 hlk
  · have c_45 := (nc_ne9 (by omega) (by decide) c_45)
    obtain ⟨n23, l37, h37⟩ := fg_r hr_37 (by decide) c_45
    obtain ⟨n17, l23, h23⟩ := fg_r hr_23 (by decide) n23
    obtain ⟨n8, l17, h17⟩ := fg_r hr_17 (by decide) n17
    obtain ⟨_, l8, h8⟩ := fg_r hr_8 (by decide) n8
    have hmq := ml_lose (σ := σ) ⟨l8, h8⟩ ⟨l17, h17⟩ ⟨l23, h23⟩ ⟨l37, h37⟩
    refine lv_aload_n hx hb dX8_readLose_48 rfl (lv_at hl 4 rfl) ?_
    refine lv_aload_n hx hb dX8_readLose_49 rfl (lv_at hl 5 rfl) ?_
    refine lv_iconst (v := (nI 0)) hx hb dX8_readLose_50 (by decide) ?_
    refine va_iald hx hb hK hP 4 0 rfl rfl (vp_in_nI (n := 0) (by omega) (by omega)) dX8_readLose_51 ?_
    refine ti (show (mS σ) (nI 0).toNatClampNeg = nI (σ 0) from by rw [nI_clamp (by omega)]; rfl) ?_
    refine lv_bipush (v := (nI 6)) hx hb dX8_readLose_52 (by decide) ?_
    refine lv_icmp_ge (tgt := 74) hx hb dX8_readLose_54 (by decide) (fun c_54 => ?_) (fun c_54 => ?_)
    · have c_54 := (nc_le (by omega) (by omega) c_54)
      refine lv_iconst (v := (nI 0)) hx hb dX8_readLose_74 (by decide) ?_
      refine ti (show (nI 0) = (bI false) from rfl) ?_
      refine wr_call (wc := [(mo, .inr (6, [.int (nI rf), .ref a1, .int (nI ln), .ref a2, .ref a3, .ref a4, .int (nI ac), .ref a5, .ref a6, .ref mw, .ref mh, .int (nI r_37.2), .int (nI ou)]))]) (va_runV (As := [.int (bI false)]) (rest := []) ⟨hx, hb, hml, hown, hts⟩ (c_X8_done l g cy mo a1 a2 a3 a4 a5 a6 mw mh H.size rf ln ac r_37.2 ou false ) ⟨(cB 1 hts wd11_23 wd1_5 wd11_20 rfl rfl (by decide +kernel) ⟨Nat.le_of_ble_eq_true rfl, Nat.le_of_ble_eq_true rfl⟩), hts _ wd11_21, hts _ wd11_22⟩ (pv hK hP hD hS hA hX [0] rfl rfl 6 0 rfl rfl) rfl rfl hl.1 rfl (lv_room (Nat.le_of_ble_eq_true rfl)) dX8_readLose_75 ⟨Nat.zero_le _, Nat.zero_le _⟩) hP hD hS hA [0] rfl rfl (fun _ => (rfl : ([mo] : List Nat) = [mo])) ?_
      rintro _u9 H locs - hP hD hS
      have hP : va_P g vwCl [(mo, .inr (6, [.int (nI rf), .ref a1, .int (nI ln), .ref a2, .ref a3, .ref a4, .int (nI ac), .ref a5, .ref a6, .ref mw, .ref mh, .int (nI r_37.2), .int (nI (ou + (if false = true then 0 else 1)))])), aI cy a1 120 (mS tx), aI cy mw 144 (mS wy), aI cy mh 8 (mS w9), aI cy sa 248 (mS σ)] H := hP
      have hD : va_D A [(mo, .inr (6, [.int (nI rf), .ref a1, .int (nI ln), .ref a2, .ref a3, .ref a4, .int (nI ac), .ref a5, .ref a6, .ref mw, .ref mh, .int (nI r_37.2), .int (nI (ou + (if false = true then 0 else 1)))])), aI cy a1 120 (mS tx), aI cy mw 144 (mS wy), aI cy mh 8 (mS w9), aI cy sa 248 (mS σ)] := hD
      show W _ _ _ _ _ _ _ _ _ _ _ _ _ _ _ (F0 mX 78 ls [.int (bI true)])
      refine lv_if_eq (tgt := 85) hx hb dX8_readLose_78 (by decide) (fun c_78 => ?_) (fun c_78 => ?_)
      · have c_78 := (bI_eq0.mp c_78)
        exact absurd c_78 (by decide)
      · have c_78 := (bI_ne0.mp c_78)
        refine lv_iconst (v := (nI 1)) hx hb dX8_readLose_81 (by decide) ?_
        refine lv_goto (tgt := 86) hx hb dX8_readLose_82 (by decide) ?_
        exact wr_z (b := true) ((rdL tx ln lsD9 p 0 z9), σ, (ou + (if false = true then 0 else 1)), wy, w9) rfl (by dsimp only; rw [hrd.1, nn9_t c_45]) ⟨rfl, (fun _ => by dsimp only; rw [show (rdL tx ln lsD9 p 0 z9).2.2 = pf4 r_8.1 r_17.1 r_23.1 r_37.1 from hrd.2.2 c_45]; exact ⟨(hmq.2 c_54).1.symm, by rw [if_pos (hmq.2 c_54).2]; rfl⟩)⟩ (by dsimp only; rw [hrd.2.1]; exact hP) hS hx hb hr dX8_readLose_86 hlk
    · have c_54 := (nc_nle (by omega) (by omega) c_54)
      refine lv_aload_n hx hb dX8_readLose_57 rfl (lv_at hl 5 rfl) ?_
      refine lv_iload_n hx hb dX8_readLose_58 rfl (lv_at hl 3 rfl) ?_
      refine lv_iload_n hx hb dX8_readLose_59 rfl (lv_at hl 2 rfl) ?_
      refine lv_iload hx hb dX8_readLose_60 (lv_at hl 1 rfl) ?_
      refine lv_iload hx hb dX8_readLose_62 (lv_at hl 0 rfl) ?_
      refine wr_call (wc := [aI cy sa 248 (mS σ)]) (va_runS (As := [.ref sa, .int (nI r_8.1), .int (nI r_17.1), .int (nI r_23.1), .int (nI r_37.1)]) (rest := [.ref mo]) ⟨hx, hb, hml, hown, hts⟩ (c_X8_loseOn l g cy sa H.size σ r_8.1 r_17.1 r_23.1 r_37.1 (by omega)) ⟨(cB 5 hts wd11_19 wd1_5 wd11_17 rfl rfl (by decide +kernel) ⟨Nat.le_of_ble_eq_true rfl, Nat.le_of_ble_eq_true rfl⟩), hts _ wd11_18⟩ (ps hK hP hD hS hA hX [4] rfl rfl) rfl rfl hl.1 rfl (lv_room (Nat.le_of_ble_eq_true rfl)) dX8_readLose_64 ⟨Nat.zero_le _, Nat.zero_le _⟩) hP hD hS hA [4] rfl rfl (fun _ => (rfl : ([sa] : List Nat) = [sa])) ?_
      rintro _u9 H locs - hP hD hS
      have hP : va_P g vwCl [(mo, .inr (6, [.int (nI rf), .ref a1, .int (nI ln), .ref a2, .ref a3, .ref a4, .int (nI ac), .ref a5, .ref a6, .ref mw, .ref mh, .int (nI r_37.2), .int (nI ou)])), aI cy a1 120 (mS tx), aI cy mw 144 (mS wy), aI cy mh 8 (mS w9), aI cy sa 248 (mS (loseS σ r_8.1 r_17.1 r_23.1 r_37.1))] H := hP
      have hD : va_D A [(mo, .inr (6, [.int (nI rf), .ref a1, .int (nI ln), .ref a2, .ref a3, .ref a4, .int (nI ac), .ref a5, .ref a6, .ref mw, .ref mh, .int (nI r_37.2), .int (nI ou)])), aI cy a1 120 (mS tx), aI cy mw 144 (mS wy), aI cy mh 8 (mS w9), aI cy sa 248 (mS (loseS σ r_8.1 r_17.1 r_23.1 r_37.1))] := hD
      show W _ _ _ _ _ _ _ _ _ _ _ _ _ _ _ (F0 mX 67 ls [.int (nI (σ 0)), .ref mo])
      refine lv_if_lt (tgt := 74) hx hb dX8_readLose_67 (by decide) (fun c_67 => ?_) (fun c_67 => ?_)
      · exact absurd c_67 (nI_pos (by omega))
      · skip
        refine lv_iconst (v := (nI 1)) hx hb dX8_readLose_70 (by decide) ?_
        refine ti (show (nI 1) = (bI true) from rfl) ?_
        refine lv_goto (tgt := 75) hx hb dX8_readLose_71 (by decide) ?_
        refine wr_call (wc := [(mo, .inr (6, [.int (nI rf), .ref a1, .int (nI ln), .ref a2, .ref a3, .ref a4, .int (nI ac), .ref a5, .ref a6, .ref mw, .ref mh, .int (nI r_37.2), .int (nI ou)]))]) (va_runV (As := [.int (bI true)]) (rest := []) ⟨hx, hb, hml, hown, hts⟩ (c_X8_done l g cy mo a1 a2 a3 a4 a5 a6 mw mh H.size rf ln ac r_37.2 ou true ) ⟨(cB 1 hts wd11_23 wd1_5 wd11_20 rfl rfl (by decide +kernel) ⟨Nat.le_of_ble_eq_true rfl, Nat.le_of_ble_eq_true rfl⟩), hts _ wd11_21, hts _ wd11_22⟩ (pv hK hP hD hS hA hX [0] rfl rfl 6 0 rfl rfl) rfl rfl hl.1 rfl (lv_room (Nat.le_of_ble_eq_true rfl)) dX8_readLose_75 ⟨Nat.zero_le _, Nat.zero_le _⟩) hP hD hS hA [0] rfl rfl (fun _ => (rfl : ([mo] : List Nat) = [mo])) ?_
        rintro _u9 H locs - hP hD hS
        have hP : va_P g vwCl [(mo, .inr (6, [.int (nI rf), .ref a1, .int (nI ln), .ref a2, .ref a3, .ref a4, .int (nI ac), .ref a5, .ref a6, .ref mw, .ref mh, .int (nI r_37.2), .int (nI (ou + (if true = true then 0 else 1)))])), aI cy a1 120 (mS tx), aI cy mw 144 (mS wy), aI cy mh 8 (mS w9), aI cy sa 248 (mS (loseS σ r_8.1 r_17.1 r_23.1 r_37.1))] H := hP
        have hD : va_D A [(mo, .inr (6, [.int (nI rf), .ref a1, .int (nI ln), .ref a2, .ref a3, .ref a4, .int (nI ac), .ref a5, .ref a6, .ref mw, .ref mh, .int (nI r_37.2), .int (nI (ou + (if true = true then 0 else 1)))])), aI cy a1 120 (mS tx), aI cy mw 144 (mS wy), aI cy mh 8 (mS w9), aI cy sa 248 (mS (loseS σ r_8.1 r_17.1 r_23.1 r_37.1))] := hD
        show W _ _ _ _ _ _ _ _ _ _ _ _ _ _ _ (F0 mX 78 ls [.int (bI true)])
        refine lv_if_eq (tgt := 85) hx hb dX8_readLose_78 (by decide) (fun c_78 => ?_) (fun c_78 => ?_)
        · have c_78 := (bI_eq0.mp c_78)
          exact absurd c_78 (by decide)
        · have c_78 := (bI_ne0.mp c_78)
          refine lv_iconst (v := (nI 1)) hx hb dX8_readLose_81 (by decide) ?_
          refine lv_goto (tgt := 86) hx hb dX8_readLose_82 (by decide) ?_
          exact wr_z (b := true) ((rdL tx ln lsD9 p 0 z9), (loseS σ r_8.1 r_17.1 r_23.1 r_37.1), (ou + (if true = true then 0 else 1)), wy, w9) rfl (by dsimp only; rw [hrd.1, nn9_t c_45]) ⟨rfl, (fun _ => by dsimp only; rw [show (rdL tx ln lsD9 p 0 z9).2.2 = pf4 r_8.1 r_17.1 r_23.1 r_37.1 from hrd.2.2 c_45]; exact ⟨(hmq.1 c_54).1.symm, by rw [if_neg (hmq.1 c_54).2]; rfl⟩)⟩ (by dsimp only; rw [hrd.2.1]; exact hP) hS hx hb hr dX8_readLose_86 hlk
set_option maxHeartbeats 4000000 in
set_option maxRecDepth 100000 in
theorem c_X8_readSight (l : Launch) (g : va_G) (cy : Nat → ClassId) (mo a1 a2 a3 a4 a5 a6 mw mh sa : Nat) (sz : Nat) (rf : Nat) (ln : Nat) (ac : Nat) (p : Nat) (ou : Nat) (tx : Nat → Nat) (wy : Nat → Nat) (w9 : Nat → Nat) (σ : Nat → Nat) (bd : Nat) (hwf : WF bd σ) (htx : ∀ i9, tx i9 < 256) (hln : ln ≤ 120) (hpp : p ≤ 400) : Met l yX8_readSight (Cond.code yX8_readSight cX8_readSight 6 (some .boolean) :: wsL_law) ({ frames := 4, cells := 0, slots := 0, locals := 95 } : Room) (va_Pc [.ref mo, .ref sa] (pr g cy [(mo, .inr (6, [.int (nI rf), .ref a1, .int (nI ln), .ref a2, .ref a3, .ref a4, .int (nI ac), .ref a5, .ref a6, .ref mw, .ref mh, .int (nI p), .int (nI ou)])), aI cy a1 120 (mS tx), aI cy mw 144 (mS wy), aI cy mh 8 (mS w9), aI cy sa 248 (mS σ)] sz)) (wr_Q (fun u9 : (Bool × Nat × (Nat → Nat)) × (Nat → Nat) × (Nat) × (Nat → Nat) × (Nat → Nat) => (some (.int (bI u9.1.1)))) (fun u9 : (Bool × Nat × (Nat → Nat)) × (Nat → Nat) × (Nat) × (Nat → Nat) × (Nat → Nat) => (u9.1 = rdL tx ln lsS9 p 0 z9) ∧ (u9.1.1 = true → u9.2.1 = doR 115 u9.1.2.2 σ ∧ u9.2.2.1 = ou + (if nI (doA 115 u9.1.2.2 σ) = nI NN2 then 1 else 0))) (fun u9 : (Bool × Nat × (Nat → Nat)) × (Nat → Nat) × (Nat) × (Nat → Nat) × (Nat → Nat) => [(mo, .inr (6, [.int (nI rf), .ref a1, .int (nI ln), .ref a2, .ref a3, .ref a4, .int (nI ac), .ref a5, .ref a6, .ref mw, .ref mh, .int (nI u9.1.2.1), .int (nI u9.2.2.1)])), aI cy a1 120 (mS tx), aI cy mw 144 (mS u9.2.2.2.1), aI cy mh 8 (mS u9.2.2.2.2), aI cy sa 248 (mS u9.2.1)]) g (va_A [(mo, .inr (6, [.int (nI rf), .ref a1, .int (nI ln), .ref a2, .ref a3, .ref a4, .int (nI ac), .ref a5, .ref a6, .ref mw, .ref mh, .int (nI p), .int (nI ou)])), aI cy a1 120 (mS tx), aI cy mw 144 (mS wy), aI cy mh 8 (mS w9), aI cy sa 248 (mS σ)] sz)) 0 0 (va_A [(mo, .inr (6, [.int (nI rf), .ref a1, .int (nI ln), .ref a2, .ref a3, .ref a4, .int (nI ac), .ref a5, .ref a6, .ref mw, .ref mh, .int (nI p), .int (nI ou)])), aI cy a1 120 (mS tx), aI cy mw 144 (mS wy), aI cy mh 8 (mS w9), aI cy sa 248 (mS σ)] sz) := by
  refine mt_of (cc := cX8_readSight) (maxL := 6) (ret := (some .boolean)) (by decide +kernel) (Nat.le_of_ble_eq_true rfl) ?_
  intro pX eX s mX below meth cX ls A hx hb hr hml hown hts hlk hin hsz hAe hA hP hD hK hX hl
  subst hsz
  rw [← hAe]
  clear hAe
  have hl : lv_has ls 6 [(0, .ref mo), (1, .ref sa)] := hl
  have hS : va_S A s.heap s.heap [] := va_S.rf
  have hn0 := hwf.n0
  have hn1 := hwf.n1
  have hh2 := hwf.h2
  refine lv_aload_n hx hb dX8_readSight_0 rfl (lv_at hl 0 rfl) ?_
  refine lv_iconst (v := (nI 0)) hx hb dX8_readSight_1 (by decide) ?_
  refine wr_call (wc := [(mo, .inr (6, [.int (nI rf), .ref a1, .int (nI ln), .ref a2, .ref a3, .ref a4, .int (nI ac), .ref a5, .ref a6, .ref mw, .ref mh, .int (nI p), .int (nI ou)])), aI cy a1 120 (mS tx)]) (va_runV (As := [.int (nI 0)]) (rest := []) ⟨hx, hb, hml, hown, hts⟩ (c_X8_finderSign l g cy mo a1 a2 a3 a4 a5 a6 mw mh s.heap.size rf ln ac p ou tx 0 htx (by omega) (by omega) ⟨Or.inr (by decide), by decide⟩) ⟨(cB 1 hts wd12_7 wd1_5 wd12_4 rfl rfl (by decide +kernel) ⟨Nat.le_of_ble_eq_true rfl, Nat.le_of_ble_eq_true rfl⟩), hts _ wd12_5, hts _ wd12_6⟩ (pv hK hP hD hS hA hX [0, 1] rfl rfl 6 0 rfl rfl) rfl rfl hl.1 rfl (lv_room (Nat.le_of_ble_eq_true rfl)) dX8_readSight_2 ⟨Nat.zero_le _, Nat.zero_le _⟩) hP hD hS hA [0, 1] rfl rfl (fun _ => (rfl : ([mo, a1] : List Nat) = [mo, a1])) ?_
  rintro r_2 H locs hr_2 hP hD hS
  have hP : va_P g vwCl [(mo, .inr (6, [.int (nI rf), .ref a1, .int (nI ln), .ref a2, .ref a3, .ref a4, .int (nI ac), .ref a5, .ref a6, .ref mw, .ref mh, .int (nI r_2.2), .int (nI ou)])), aI cy a1 120 (mS tx), aI cy mw 144 (mS wy), aI cy mh 8 (mS w9), aI cy sa 248 (mS σ)] H := hP
  have hD : va_D A [(mo, .inr (6, [.int (nI rf), .ref a1, .int (nI ln), .ref a2, .ref a3, .ref a4, .int (nI ac), .ref a5, .ref a6, .ref mw, .ref mh, .int (nI r_2.2), .int (nI ou)])), aI cy a1 120 (mS tx), aI cy mw 144 (mS wy), aI cy mh 8 (mS w9), aI cy sa 248 (mS σ)] := hD
  have hr_2 : r_2 = fgF tx ln 0 1 0 7 p := hr_2
  show W _ _ _ _ _ _ _ _ _ _ _ _ _ _ _ (F0 mX 5 ls [.int (nI r_2.1)])
  have hpv_2 := fg_p hr_2
  have hvv_2 := fg_v (by decide) hr_2
  refine lv_istore_n (lv' := [(2, .int (nI r_2.1)), (0, .ref mo), (1, .ref sa)]) hx hb dX8_readSight_5 rfl hl (by decide) rfl (fun ls hl => ?_)
  refine lv_aload_n hx hb dX8_readSight_6 rfl (lv_at hl 1 rfl) ?_
  refine lv_iload_n hx hb dX8_readSight_7 rfl (lv_at hl 0 rfl) ?_
  refine wr_call (wc := [(mo, .inr (6, [.int (nI rf), .ref a1, .int (nI ln), .ref a2, .ref a3, .ref a4, .int (nI ac), .ref a5, .ref a6, .ref mw, .ref mh, .int (nI r_2.2), .int (nI ou)])), aI cy a1 120 (mS tx)]) (va_runV (As := [.int (nI r_2.1)]) (rest := []) ⟨hx, hb, hml, hown, hts⟩ (c_X8_cornerSign l g cy mo a1 a2 a3 a4 a5 a6 mw mh H.size rf ln ac r_2.2 ou tx r_2.1 htx (by omega) (by omega) (by omega)) ⟨(cB 1 hts wd11_16 wd1_5 wd11_13 rfl rfl (by decide +kernel) ⟨Nat.le_of_ble_eq_true rfl, Nat.le_of_ble_eq_true rfl⟩), hts _ wd11_14, hts _ wd11_15⟩ (pv hK hP hD hS hA hX [0, 1] rfl rfl 6 0 rfl rfl) rfl rfl hl.1 rfl (lv_room (Nat.le_of_ble_eq_true rfl)) dX8_readSight_8 ⟨Nat.zero_le _, Nat.zero_le _⟩) hP hD hS hA [0, 1] rfl rfl (fun _ => (rfl : ([mo, a1] : List Nat) = [mo, a1])) ?_
  rintro r_8 H locs hr_8 hP hD hS
  have hP : va_P g vwCl [(mo, .inr (6, [.int (nI rf), .ref a1, .int (nI ln), .ref a2, .ref a3, .ref a4, .int (nI ac), .ref a5, .ref a6, .ref mw, .ref mh, .int (nI r_8.2), .int (nI ou)])), aI cy a1 120 (mS tx), aI cy mw 144 (mS wy), aI cy mh 8 (mS w9), aI cy sa 248 (mS σ)] H := hP
  have hD : va_D A [(mo, .inr (6, [.int (nI rf), .ref a1, .int (nI ln), .ref a2, .ref a3, .ref a4, .int (nI ac), .ref a5, .ref a6, .ref mw, .ref mh, .int (nI r_8.2), .int (nI ou)])), aI cy a1 120 (mS tx), aI cy mw 144 (mS wy), aI cy mh 8 (mS w9), aI cy sa 248 (mS σ)] := hD
  have hr_8 : r_8 = fgF tx ln r_2.1 2 0 11 r_2.2 := hr_8
  show W _ _ _ _ _ _ _ _ _ _ _ _ _ _ _ (F0 mX 11 ls [.int (nI r_8.1)])
  have hpv_8 := fg_p hr_8
  have hvv_8 := fg_v (by decide) hr_8
  refine lv_istore_n (lv' := [(3, .int (nI r_8.1)), (2, .int (nI r_2.1)), (0, .ref mo), (1, .ref sa)]) hx hb dX8_readSight_11 rfl hl (by decide) rfl (fun ls hl => ?_)
  refine lv_aload_n hx hb dX8_readSight_12 rfl (lv_at hl 2 rfl) ?_
  refine lv_iload_n hx hb dX8_readSight_13 rfl (lv_at hl 0 rfl) ?_
  refine lv_bipush (v := (nI 100)) hx hb dX8_readSight_14 (by decide) ?_
  refine lv_iconst (v := (nI 0)) hx hb dX8_readSight_16 (by decide) ?_
  refine lv_sipush (v := (nI 255)) hx hb dX8_readSight_17 (by decide) ?_
  refine wr_call (wc := [(mo, .inr (6, [.int (nI rf), .ref a1, .int (nI ln), .ref a2, .ref a3, .ref a4, .int (nI ac), .ref a5, .ref a6, .ref mw, .ref mh, .int (nI r_8.2), .int (nI ou)])), aI cy a1 120 (mS tx)]) (va_runV (As := [.int (nI r_8.1), .int (nI 100), .int (nI 0), .int (nI 255)]) (rest := []) ⟨hx, hb, hml, hown, hts⟩ (c_X8_figures l g cy mo a1 a2 a3 a4 a5 a6 mw mh H.size rf ln ac r_8.2 ou tx r_8.1 3 100 0 255 htx (by omega) (by omega) (by omega) (by omega) (by omega) rfl (by omega) (by omega)) ⟨(cB 4 hts wd11_11 wd1_5 wd11_8 rfl rfl (by decide +kernel) ⟨Nat.le_of_ble_eq_true rfl, Nat.le_of_ble_eq_true rfl⟩), hts _ wd11_9, hts _ wd11_10⟩ (pv hK hP hD hS hA hX [0, 1] rfl rfl 6 0 rfl rfl) rfl rfl hl.1 rfl (lv_room (Nat.le_of_ble_eq_true rfl)) dX8_readSight_20 ⟨Nat.zero_le _, Nat.zero_le _⟩) hP hD hS hA [0, 1] rfl rfl (fun _ => (rfl : ([mo, a1] : List Nat) = [mo, a1])) ?_
  rintro r_20 H locs hr_20 hP hD hS
  have hP : va_P g vwCl [(mo, .inr (6, [.int (nI rf), .ref a1, .int (nI ln), .ref a2, .ref a3, .ref a4, .int (nI ac), .ref a5, .ref a6, .ref mw, .ref mh, .int (nI r_20.2), .int (nI ou)])), aI cy a1 120 (mS tx), aI cy mw 144 (mS wy), aI cy mh 8 (mS w9), aI cy sa 248 (mS σ)] H := hP
  have hD : va_D A [(mo, .inr (6, [.int (nI rf), .ref a1, .int (nI ln), .ref a2, .ref a3, .ref a4, .int (nI ac), .ref a5, .ref a6, .ref mw, .ref mh, .int (nI r_20.2), .int (nI ou)])), aI cy a1 120 (mS tx), aI cy mw 144 (mS wy), aI cy mh 8 (mS w9), aI cy sa 248 (mS σ)] := hD
  have hr_20 : r_20 = fgF tx ln r_8.1 3 0 255 r_8.2 := hr_20
  show W _ _ _ _ _ _ _ _ _ _ _ _ _ _ _ (F0 mX 23 ls [.int (nI r_20.1)])
  have hpv_20 := fg_p hr_20
  have hvv_20 := fg_v (by decide) hr_20
  refine lv_istore (lv' := [(4, .int (nI r_20.1)), (3, .int (nI r_8.1)), (2, .int (nI r_2.1)), (0, .ref mo), (1, .ref sa)]) hx hb dX8_readSight_23 hl (by decide) rfl (fun ls hl => ?_)
  refine lv_aload_n hx hb dX8_readSight_25 rfl (lv_at hl 3 rfl) ?_
  refine lv_iload hx hb dX8_readSight_26 (lv_at hl 0 rfl) ?_
  refine wr_call (wc := [(mo, .inr (6, [.int (nI rf), .ref a1, .int (nI ln), .ref a2, .ref a3, .ref a4, .int (nI ac), .ref a5, .ref a6, .ref mw, .ref mh, .int (nI r_20.2), .int (nI ou)])), aI cy a1 120 (mS tx)]) (va_runV (As := [.int (nI r_20.1)]) (rest := []) ⟨hx, hb, hml, hown, hts⟩ (c_X8_plusSign l g cy mo a1 a2 a3 a4 a5 a6 mw mh H.size rf ln ac r_20.2 ou tx r_20.1 htx (by omega) (by omega) (by omega)) ⟨(cB 1 hts wd12_11 wd1_5 wd12_8 rfl rfl (by decide +kernel) ⟨Nat.le_of_ble_eq_true rfl, Nat.le_of_ble_eq_true rfl⟩), hts _ wd12_9, hts _ wd12_10⟩ (pv hK hP hD hS hA hX [0, 1] rfl rfl 6 0 rfl rfl) rfl rfl hl.1 rfl (lv_room (Nat.le_of_ble_eq_true rfl)) dX8_readSight_28 ⟨Nat.zero_le _, Nat.zero_le _⟩) hP hD hS hA [0, 1] rfl rfl (fun _ => (rfl : ([mo, a1] : List Nat) = [mo, a1])) ?_
  rintro r_28 H locs hr_28 hP hD hS
  have hP : va_P g vwCl [(mo, .inr (6, [.int (nI rf), .ref a1, .int (nI ln), .ref a2, .ref a3, .ref a4, .int (nI ac), .ref a5, .ref a6, .ref mw, .ref mh, .int (nI r_28.2), .int (nI ou)])), aI cy a1 120 (mS tx), aI cy mw 144 (mS wy), aI cy mh 8 (mS w9), aI cy sa 248 (mS σ)] H := hP
  have hD : va_D A [(mo, .inr (6, [.int (nI rf), .ref a1, .int (nI ln), .ref a2, .ref a3, .ref a4, .int (nI ac), .ref a5, .ref a6, .ref mw, .ref mh, .int (nI r_28.2), .int (nI ou)])), aI cy a1 120 (mS tx), aI cy mw 144 (mS wy), aI cy mh 8 (mS w9), aI cy sa 248 (mS σ)] := hD
  have hr_28 : r_28 = fgF tx ln r_20.1 0 0 0 r_20.2 := hr_28
  show W _ _ _ _ _ _ _ _ _ _ _ _ _ _ _ (F0 mX 31 ls [.int (nI r_28.1)])
  have hpv_28 := fg_p hr_28
  have hvv_28 := fg_v (by decide) hr_28
  have hrd := rd4 (x1 := (1, 0, 7)) (x2 := (2, 0, 11)) (x3 := (3, 0, 255)) (x4 := (0, 0, 0)) (f := z9) (by decide) (by decide) (by decide) (by decide) hr_2 hr_8 hr_20 hr_28
  rw [show [(1, 0, 7), (2, 0, 11), (3, 0, 255), (0, 0, 0)] = lsS9 from rfl] at hrd
  refine lv_istore (lv' := [(5, .int (nI r_28.1)), (4, .int (nI r_20.1)), (3, .int (nI r_8.1)), (2, .int (nI r_2.1)), (0, .ref mo), (1, .ref sa)]) hx hb dX8_readSight_31 hl (by decide) rfl (fun ls hl => ?_)
  refine lv_iload hx hb dX8_readSight_33 (lv_at hl 0 rfl) ?_
  refine lv_iconst (v := (nI NN)) hx hb dX8_readSight_35 (by decide) ?_
  refine lv_icmp_eq (tgt := 87) hx hb dX8_readSight_36 (by decide) (fun c_36 => ?_) (fun c_36 => ?_)
  · have c_36 := (nc_eq9 (by omega) (by decide) c_36)
    refine lv_iconst (v := (nI 0)) hx hb dX8_readSight_87 (by decide) ?_
    exact wr_z (b := false) ((rdL tx ln lsS9 p 0 z9), σ, ou, wy, w9) rfl (by dsimp only; rw [hrd.1, nn9_f c_36]) ⟨rfl, (fun h9 => absurd h9 (by dsimp only; rw [hrd.1, nn9_f c_36]; decide))⟩ (by dsimp only; rw [hrd.2.1]; exact hP) hS hx hb hr dX8_readSight_88 hlk
  · have c_36 := (nc_ne9 (by omega) (by decide) c_36)
    obtain ⟨n20, h28⟩ := fg_pl hr_28 c_36
    obtain ⟨n8, l20, h20⟩ := fg_r hr_20 (by decide) n20
    obtain ⟨n2, l8, h8⟩ := fg_r hr_8 (by decide) n8
    obtain ⟨_, l2, h2⟩ := fg_r hr_2 (by decide) n2
    have hmq := ml_sight (σ := σ) hn0 hh2 ⟨l2, h2⟩ ⟨l8, h8⟩ ⟨l20, h20⟩ h28
    refine lv_aload_n hx hb dX8_readSight_39 rfl (lv_at hl 4 rfl) ?_
    refine lv_aload_n hx hb dX8_readSight_40 rfl (lv_at hl 5 rfl) ?_
    refine lv_iconst (v := (nI 1)) hx hb dX8_readSight_41 (by decide) ?_
    refine va_iald hx hb hK hP 4 0 rfl rfl (vp_in_nI (n := 1) (by omega) (by omega)) dX8_readSight_42 ?_
    refine ti (show (mS σ) (nI 1).toNatClampNeg = nI (σ 1) from by rw [nI_clamp (by omega)]; rfl) ?_
    refine lv_bipush (v := (nI 20)) hx hb dX8_readSight_43 (by decide) ?_
    refine lv_icmp_ge (tgt := 76) hx hb dX8_readSight_45 (by decide) (fun c_45 => ?_) (fun c_45 => ?_)
    · have c_45 := (nc_le (by omega) (by omega) c_45)
      refine lv_iconst (v := (nI 0)) hx hb dX8_readSight_76 (by decide) ?_
      refine ti (show (nI 0) = (bI false) from rfl) ?_
      refine wr_call (wc := [(mo, .inr (6, [.int (nI rf), .ref a1, .int (nI ln), .ref a2, .ref a3, .ref a4, .int (nI ac), .ref a5, .ref a6, .ref mw, .ref mh, .int (nI r_28.2), .int (nI ou)]))]) (va_runV (As := [.int (bI false)]) (rest := []) ⟨hx, hb, hml, hown, hts⟩ (c_X8_done l g cy mo a1 a2 a3 a4 a5 a6 mw mh H.size rf ln ac r_28.2 ou false ) ⟨(cB 1 hts wd11_23 wd1_5 wd11_20 rfl rfl (by decide +kernel) ⟨Nat.le_of_ble_eq_true rfl, Nat.le_of_ble_eq_true rfl⟩), hts _ wd11_21, hts _ wd11_22⟩ (pv hK hP hD hS hA hX [0] rfl rfl 6 0 rfl rfl) rfl rfl hl.1 rfl (lv_room (Nat.le_of_ble_eq_true rfl)) dX8_readSight_77 ⟨Nat.zero_le _, Nat.zero_le _⟩) hP hD hS hA [0] rfl rfl (fun _ => (rfl : ([mo] : List Nat) = [mo])) ?_
      rintro _u9 H locs - hP hD hS
      have hP : va_P g vwCl [(mo, .inr (6, [.int (nI rf), .ref a1, .int (nI ln), .ref a2, .ref a3, .ref a4, .int (nI ac), .ref a5, .ref a6, .ref mw, .ref mh, .int (nI r_28.2), .int (nI (ou + (if false = true then 0 else 1)))])), aI cy a1 120 (mS tx), aI cy mw 144 (mS wy), aI cy mh 8 (mS w9), aI cy sa 248 (mS σ)] H := hP
      have hD : va_D A [(mo, .inr (6, [.int (nI rf), .ref a1, .int (nI ln), .ref a2, .ref a3, .ref a4, .int (nI ac), .ref a5, .ref a6, .ref mw, .ref mh, .int (nI r_28.2), .int (nI (ou + (if false = true then 0 else 1)))])), aI cy a1 120 (mS tx), aI cy mw 144 (mS wy), aI cy mh 8 (mS w9), aI cy sa 248 (mS σ)] := hD
      show W _ _ _ _ _ _ _ _ _ _ _ _ _ _ _ (F0 mX 80 ls [.int (bI true)])
      refine lv_if_eq (tgt := 87) hx hb dX8_readSight_80 (by decide) (fun c_80 => ?_) (fun c_80 => ?_)
      · have c_80 := (bI_eq0.mp c_80)
        exact absurd c_80 (by decide)
      · have c_80 := (bI_ne0.mp c_80)
        refine lv_iconst (v := (nI 1)) hx hb dX8_readSight_83 (by decide) ?_
        refine lv_goto (tgt := 88) hx hb dX8_readSight_84 (by decide) ?_
        exact wr_z (b := true) ((rdL tx ln lsS9 p 0 z9), σ, (ou + (if false = true then 0 else 1)), wy, w9) rfl (by dsimp only; rw [hrd.1, nn9_t c_36]) ⟨rfl, (fun _ => by dsimp only; rw [show (rdL tx ln lsS9 p 0 z9).2.2 = pf4 r_2.1 r_8.1 r_20.1 r_28.1 from hrd.2.2 c_36]; exact ⟨(hmq.2 c_45).1.symm, by rw [if_pos (hmq.2 c_45).2]; rfl⟩)⟩ (by dsimp only; rw [hrd.2.1]; exact hP) hS hx hb hr dX8_readSight_88 hlk
    · have c_45 := (nc_nle (by omega) (by omega) c_45)
      refine lv_aload_n hx hb dX8_readSight_48 rfl (lv_at hl 5 rfl) ?_
      refine lv_iload_n hx hb dX8_readSight_49 rfl (lv_at hl 3 rfl) ?_
      refine lv_iload_n hx hb dX8_readSight_50 rfl (lv_at hl 2 rfl) ?_
      refine lv_iload hx hb dX8_readSight_51 (lv_at hl 1 rfl) ?_
      refine lv_iconst (v := (nI 0)) hx hb dX8_readSight_53 (by decide) ?_
      refine jn_i (pcj := 65) (ls := ls) (st := [.int (nI 0), .int (nI r_20.1), .int (nI r_8.1), .int (nI r_2.1), .ref sa, .ref mo]) (fun v9 => v9 = (bI (decide (r_28.1 = 1)))) ?_ (fun jn65 => ?_)
      · intro v9 hv9
        subst hv9
        refine wr_call (wc := [aI cy sa 248 (mS σ)]) (va_runS (As := [.ref sa, .int (nI r_2.1), .int (nI r_8.1), .int (nI r_20.1), .int (nI 0), .int (bI (decide (r_28.1 = 1)))]) (rest := [.ref mo]) ⟨hx, hb, hml, hown, hts⟩ (c_X8_sightOn l g cy sa H.size σ bd r_2.1 r_8.1 r_20.1 0 (decide (r_28.1 = 1)) hwf (by omega) (by omega) (by omega)) ⟨(cB 6 hts wd12_14 wd1_5 wd12_12 rfl rfl (by decide +kernel) ⟨Nat.le_of_ble_eq_true rfl, Nat.le_of_ble_eq_true rfl⟩), hts _ wd12_13⟩ (ps hK hP hD hS hA hX [4] rfl rfl) rfl rfl hl.1 rfl (lv_room (Nat.le_of_ble_eq_true rfl)) dX8_readSight_65 ⟨Nat.zero_le _, Nat.zero_le _⟩) hP hD hS hA [4] rfl rfl (fun _ => (rfl : ([sa] : List Nat) = [sa])) ?_
        rintro _u9 H locs - hP hD hS
        have hP : va_P g vwCl [(mo, .inr (6, [.int (nI rf), .ref a1, .int (nI ln), .ref a2, .ref a3, .ref a4, .int (nI ac), .ref a5, .ref a6, .ref mw, .ref mh, .int (nI r_28.2), .int (nI ou)])), aI cy a1 120 (mS tx), aI cy mw 144 (mS wy), aI cy mh 8 (mS w9), aI cy sa 248 (mS (sightS σ r_2.1 r_8.1 r_20.1 0 (if (decide (r_28.1 = 1)) then 1 else 0)))] H := hP
        have hD : va_D A [(mo, .inr (6, [.int (nI rf), .ref a1, .int (nI ln), .ref a2, .ref a3, .ref a4, .int (nI ac), .ref a5, .ref a6, .ref mw, .ref mh, .int (nI r_28.2), .int (nI ou)])), aI cy a1 120 (mS tx), aI cy mw 144 (mS wy), aI cy mh 8 (mS w9), aI cy sa 248 (mS (sightS σ r_2.1 r_8.1 r_20.1 0 (if (decide (r_28.1 = 1)) then 1 else 0)))] := hD
        show W _ _ _ _ _ _ _ _ _ _ _ _ _ _ _ (F0 mX 68 ls [.int (nI (mea σ r_20.1 (σ 2 - 0))), .ref mo])
        refine ti (show (nI (mea σ r_20.1 (σ 2 - 0))) = (nI (mea σ r_20.1 (σ 2 - 0))) from rfl) ?_
        refine lv_iconst (v := (nI NN)) hx hb dX8_readSight_68 (by decide) ?_
        refine lv_icmp_lt (tgt := 76) hx hb dX8_readSight_69 (by decide) (fun c_69 => ?_) (fun c_69 => ?_)
        · skip
          exact absurd c_69 (mea_ge hn0)
        · skip
          refine lv_iconst (v := (nI 1)) hx hb dX8_readSight_72 (by decide) ?_
          refine ti (show (nI 1) = (bI true) from rfl) ?_
          refine lv_goto (tgt := 77) hx hb dX8_readSight_73 (by decide) ?_
          refine wr_call (wc := [(mo, .inr (6, [.int (nI rf), .ref a1, .int (nI ln), .ref a2, .ref a3, .ref a4, .int (nI ac), .ref a5, .ref a6, .ref mw, .ref mh, .int (nI r_28.2), .int (nI ou)]))]) (va_runV (As := [.int (bI true)]) (rest := []) ⟨hx, hb, hml, hown, hts⟩ (c_X8_done l g cy mo a1 a2 a3 a4 a5 a6 mw mh H.size rf ln ac r_28.2 ou true ) ⟨(cB 1 hts wd11_23 wd1_5 wd11_20 rfl rfl (by decide +kernel) ⟨Nat.le_of_ble_eq_true rfl, Nat.le_of_ble_eq_true rfl⟩), hts _ wd11_21, hts _ wd11_22⟩ (pv hK hP hD hS hA hX [0] rfl rfl 6 0 rfl rfl) rfl rfl hl.1 rfl (lv_room (Nat.le_of_ble_eq_true rfl)) dX8_readSight_77 ⟨Nat.zero_le _, Nat.zero_le _⟩) hP hD hS hA [0] rfl rfl (fun _ => (rfl : ([mo] : List Nat) = [mo])) ?_
          rintro _u9 H locs - hP hD hS
          have hP : va_P g vwCl [(mo, .inr (6, [.int (nI rf), .ref a1, .int (nI ln), .ref a2, .ref a3, .ref a4, .int (nI ac), .ref a5, .ref a6, .ref mw, .ref mh, .int (nI r_28.2), .int (nI (ou + (if true = true then 0 else 1)))])), aI cy a1 120 (mS tx), aI cy mw 144 (mS wy), aI cy mh 8 (mS w9), aI cy sa 248 (mS (sightS σ r_2.1 r_8.1 r_20.1 0 (if (decide (r_28.1 = 1)) then 1 else 0)))] H := hP
          have hD : va_D A [(mo, .inr (6, [.int (nI rf), .ref a1, .int (nI ln), .ref a2, .ref a3, .ref a4, .int (nI ac), .ref a5, .ref a6, .ref mw, .ref mh, .int (nI r_28.2), .int (nI (ou + (if true = true then 0 else 1)))])), aI cy a1 120 (mS tx), aI cy mw 144 (mS wy), aI cy mh 8 (mS w9), aI cy sa 248 (mS (sightS σ r_2.1 r_8.1 r_20.1 0 (if (decide (r_28.1 = 1)) then 1 else 0)))] := hD
          show W _ _ _ _ _ _ _ _ _ _ _ _ _ _ _ (F0 mX 80 ls [.int (bI true)])
          refine lv_if_eq (tgt := 87) hx hb dX8_readSight_80 (by decide) (fun c_80 => ?_) (fun c_80 => ?_)
          · have c_80 := (bI_eq0.mp c_80)
            exact absurd c_80 (by decide)
          · have c_80 := (bI_ne0.mp c_80)
            refine lv_iconst (v := (nI 1)) hx hb dX8_readSight_83 (by decide) ?_
            refine lv_goto (tgt := 88) hx hb dX8_readSight_84 (by decide) ?_
            exact wr_z (b := true) ((rdL tx ln lsS9 p 0 z9), (sightS σ r_2.1 r_8.1 r_20.1 0 (if (decide (r_28.1 = 1)) then 1 else 0)), (ou + (if true = true then 0 else 1)), wy, w9) rfl (by dsimp only; rw [hrd.1, nn9_t c_36]) ⟨rfl, (fun _ => by dsimp only; rw [show (rdL tx ln lsS9 p 0 z9).2.2 = pf4 r_2.1 r_8.1 r_20.1 r_28.1 from hrd.2.2 c_36]; exact ⟨(hmq.1 c_45).1.symm, by rw [if_neg (hmq.1 c_45).2]; rfl⟩)⟩ (by dsimp only; rw [hrd.2.1]; exact hP) hS hx hb hr dX8_readSight_88 hlk
      · skip
        refine lv_iload hx hb dX8_readSight_54 (lv_at hl 0 rfl) ?_
        refine lv_iconst (v := (nI 1)) hx hb dX8_readSight_56 (by decide) ?_
        refine lv_icmp_ne (tgt := 64) hx hb dX8_readSight_57 (by decide) (fun c_57 => ?_) (fun c_57 => ?_)
        · have c_57 := (nc_ne9 (by omega) (by omega) c_57)
          refine lv_iconst (v := (nI 0)) hx hb dX8_readSight_64 (by decide) ?_
          exact jn65 _ (by simp [bI, nI_0, nI_o, c_57])
        · have c_57 := (nc_eq9 (by omega) (by omega) c_57)
          refine lv_iconst (v := (nI 1)) hx hb dX8_readSight_60 (by decide) ?_
          refine lv_goto (tgt := 65) hx hb dX8_readSight_61 (by decide) ?_
          exact jn65 _ (by simp [bI, nI_0, nI_o, c_57])
set_option maxHeartbeats 4000000 in
set_option maxRecDepth 100000 in
theorem c_X8_readFind (l : Launch) (g : va_G) (cy : Nat → ClassId) (mo a1 a2 a3 a4 a5 a6 mw mh sa : Nat) (sz : Nat) (rf : Nat) (ln : Nat) (ac : Nat) (p : Nat) (ou : Nat) (tx : Nat → Nat) (wy : Nat → Nat) (w9 : Nat → Nat) (σ : Nat → Nat) (bd : Nat) (hwf : WF bd σ) (htx : ∀ i9, tx i9 < 256) (hln : ln ≤ 120) (hpp : p ≤ 400) : Met l yX8_readFind (Cond.code yX8_readFind cX8_readFind 5 (some .boolean) :: wsL_law) ({ frames := 6, cells := 0, slots := 0, locals := 148 } : Room) (va_Pc [.ref mo, .ref sa] (pr g cy [(mo, .inr (6, [.int (nI rf), .ref a1, .int (nI ln), .ref a2, .ref a3, .ref a4, .int (nI ac), .ref a5, .ref a6, .ref mw, .ref mh, .int (nI p), .int (nI ou)])), aI cy a1 120 (mS tx), aI cy mw 144 (mS wy), aI cy mh 8 (mS w9), aI cy sa 248 (mS σ)] sz)) (wr_Q (fun u9 : (Bool × Nat × (Nat → Nat)) × (Nat → Nat) × (Nat) × (Nat → Nat) × (Nat → Nat) => (some (.int (bI u9.1.1)))) (fun u9 : (Bool × Nat × (Nat → Nat)) × (Nat → Nat) × (Nat) × (Nat → Nat) × (Nat → Nat) => (u9.1 = rdL tx ln lsF9 p 0 z9) ∧ (u9.1.1 = true → u9.2.1 = doR 102 u9.1.2.2 σ ∧ u9.2.2.1 = ou + (if nI (doA 102 u9.1.2.2 σ) = nI NN2 then 1 else 0))) (fun u9 : (Bool × Nat × (Nat → Nat)) × (Nat → Nat) × (Nat) × (Nat → Nat) × (Nat → Nat) => [(mo, .inr (6, [.int (nI rf), .ref a1, .int (nI ln), .ref a2, .ref a3, .ref a4, .int (nI ac), .ref a5, .ref a6, .ref mw, .ref mh, .int (nI u9.1.2.1), .int (nI u9.2.2.1)])), aI cy a1 120 (mS tx), aI cy mw 144 (mS u9.2.2.2.1), aI cy mh 8 (mS u9.2.2.2.2), aI cy sa 248 (mS u9.2.1)]) g (va_A [(mo, .inr (6, [.int (nI rf), .ref a1, .int (nI ln), .ref a2, .ref a3, .ref a4, .int (nI ac), .ref a5, .ref a6, .ref mw, .ref mh, .int (nI p), .int (nI ou)])), aI cy a1 120 (mS tx), aI cy mw 144 (mS wy), aI cy mh 8 (mS w9), aI cy sa 248 (mS σ)] sz)) 0 0 (va_A [(mo, .inr (6, [.int (nI rf), .ref a1, .int (nI ln), .ref a2, .ref a3, .ref a4, .int (nI ac), .ref a5, .ref a6, .ref mw, .ref mh, .int (nI p), .int (nI ou)])), aI cy a1 120 (mS tx), aI cy mw 144 (mS wy), aI cy mh 8 (mS w9), aI cy sa 248 (mS σ)] sz) := by
  refine mt_of (cc := cX8_readFind) (maxL := 5) (ret := (some .boolean)) (by decide +kernel) (Nat.le_of_ble_eq_true rfl) ?_
  intro pX eX s mX below meth cX ls A hx hb hr hml hown hts hlk hin hsz hAe hA hP hD hK hX hl
  subst hsz
  rw [← hAe]
  clear hAe
  have hl : lv_has ls 5 [(0, .ref mo), (1, .ref sa)] := hl
  have hS : va_S A s.heap s.heap [] := va_S.rf
  have hn0 := hwf.n0
  have hn1 := hwf.n1
  have hh2 := hwf.h2
  refine lv_aload_n hx hb dX8_readFind_0 rfl (lv_at hl 0 rfl) ?_
  refine lv_iconst (v := (nI 0)) hx hb dX8_readFind_1 (by decide) ?_
  refine lv_iconst (v := (nI 1)) hx hb dX8_readFind_2 (by decide) ?_
  refine lv_iconst (v := (nI 0)) hx hb dX8_readFind_3 (by decide) ?_
  refine lv_iconst (v := (nI 5)) hx hb dX8_readFind_4 (by decide) ?_
  refine wr_call (wc := [(mo, .inr (6, [.int (nI rf), .ref a1, .int (nI ln), .ref a2, .ref a3, .ref a4, .int (nI ac), .ref a5, .ref a6, .ref mw, .ref mh, .int (nI p), .int (nI ou)])), aI cy a1 120 (mS tx)]) (va_runV (As := [.int (nI 0), .int (nI 1), .int (nI 0), .int (nI 5)]) (rest := []) ⟨hx, hb, hml, hown, hts⟩ (c_X8_figures l g cy mo a1 a2 a3 a4 a5 a6 mw mh s.heap.size rf ln ac p ou tx 0 1 1 0 5 htx (by omega) (by omega) ⟨Or.inr (by decide), by decide⟩ (by omega) (by omega) rfl (by omega) (by omega)) ⟨(cB 4 hts wd11_11 wd1_5 wd11_8 rfl rfl (by decide +kernel) ⟨Nat.le_of_ble_eq_true rfl, Nat.le_of_ble_eq_true rfl⟩), hts _ wd11_9, hts _ wd11_10⟩ (pv hK hP hD hS hA hX [0, 1] rfl rfl 6 0 rfl rfl) rfl rfl hl.1 rfl (lv_room (Nat.le_of_ble_eq_true rfl)) dX8_readFind_5 ⟨Nat.zero_le _, Nat.zero_le _⟩) hP hD hS hA [0, 1] rfl rfl (fun _ => (rfl : ([mo, a1] : List Nat) = [mo, a1])) ?_
  rintro r_5 H locs hr_5 hP hD hS
  have hP : va_P g vwCl [(mo, .inr (6, [.int (nI rf), .ref a1, .int (nI ln), .ref a2, .ref a3, .ref a4, .int (nI ac), .ref a5, .ref a6, .ref mw, .ref mh, .int (nI r_5.2), .int (nI ou)])), aI cy a1 120 (mS tx), aI cy mw 144 (mS wy), aI cy mh 8 (mS w9), aI cy sa 248 (mS σ)] H := hP
  have hD : va_D A [(mo, .inr (6, [.int (nI rf), .ref a1, .int (nI ln), .ref a2, .ref a3, .ref a4, .int (nI ac), .ref a5, .ref a6, .ref mw, .ref mh, .int (nI r_5.2), .int (nI ou)])), aI cy a1 120 (mS tx), aI cy mw 144 (mS wy), aI cy mh 8 (mS w9), aI cy sa 248 (mS σ)] := hD
  have hr_5 : r_5 = fgF tx ln 0 1 0 5 p := hr_5
  show W _ _ _ _ _ _ _ _ _ _ _ _ _ _ _ (F0 mX 8 ls [.int (nI r_5.1)])
  have hpv_5 := fg_p hr_5
  have hvv_5 := fg_v (by decide) hr_5
  refine lv_istore_n (lv' := [(2, .int (nI r_5.1)), (0, .ref mo), (1, .ref sa)]) hx hb dX8_readFind_8 rfl hl (by decide) rfl (fun ls hl => ?_)
  refine lv_aload_n hx hb dX8_readFind_9 rfl (lv_at hl 1 rfl) ?_
  refine lv_iload_n hx hb dX8_readFind_10 rfl (lv_at hl 0 rfl) ?_
  refine wr_call (wc := [(mo, .inr (6, [.int (nI rf), .ref a1, .int (nI ln), .ref a2, .ref a3, .ref a4, .int (nI ac), .ref a5, .ref a6, .ref mw, .ref mh, .int (nI r_5.2), .int (nI ou)])), aI cy a1 120 (mS tx)]) (va_runV (As := [.int (nI r_5.1)]) (rest := []) ⟨hx, hb, hml, hown, hts⟩ (c_X8_finderSign l g cy mo a1 a2 a3 a4 a5 a6 mw mh H.size rf ln ac r_5.2 ou tx r_5.1 htx (by omega) (by omega) (by omega)) ⟨(cB 1 hts wd12_7 wd1_5 wd12_4 rfl rfl (by decide +kernel) ⟨Nat.le_of_ble_eq_true rfl, Nat.le_of_ble_eq_true rfl⟩), hts _ wd12_5, hts _ wd12_6⟩ (pv hK hP hD hS hA hX [0, 1] rfl rfl 6 0 rfl rfl) rfl rfl hl.1 rfl (lv_room (Nat.le_of_ble_eq_true rfl)) dX8_readFind_11 ⟨Nat.zero_le _, Nat.zero_le _⟩) hP hD hS hA [0, 1] rfl rfl (fun _ => (rfl : ([mo, a1] : List Nat) = [mo, a1])) ?_
  rintro r_11 H locs hr_11 hP hD hS
  have hP : va_P g vwCl [(mo, .inr (6, [.int (nI rf), .ref a1, .int (nI ln), .ref a2, .ref a3, .ref a4, .int (nI ac), .ref a5, .ref a6, .ref mw, .ref mh, .int (nI r_11.2), .int (nI ou)])), aI cy a1 120 (mS tx), aI cy mw 144 (mS wy), aI cy mh 8 (mS w9), aI cy sa 248 (mS σ)] H := hP
  have hD : va_D A [(mo, .inr (6, [.int (nI rf), .ref a1, .int (nI ln), .ref a2, .ref a3, .ref a4, .int (nI ac), .ref a5, .ref a6, .ref mw, .ref mh, .int (nI r_11.2), .int (nI ou)])), aI cy a1 120 (mS tx), aI cy mw 144 (mS wy), aI cy mh 8 (mS w9), aI cy sa 248 (mS σ)] := hD
  have hr_11 : r_11 = fgF tx ln r_5.1 1 0 7 r_5.2 := hr_11
  show W _ _ _ _ _ _ _ _ _ _ _ _ _ _ _ (F0 mX 14 ls [.int (nI r_11.1)])
  have hpv_11 := fg_p hr_11
  have hvv_11 := fg_v (by decide) hr_11
  refine lv_istore_n (lv' := [(3, .int (nI r_11.1)), (2, .int (nI r_5.1)), (0, .ref mo), (1, .ref sa)]) hx hb dX8_readFind_14 rfl hl (by decide) rfl (fun ls hl => ?_)
  refine lv_aload_n hx hb dX8_readFind_15 rfl (lv_at hl 2 rfl) ?_
  refine lv_iload_n hx hb dX8_readFind_16 rfl (lv_at hl 0 rfl) ?_
  refine wr_call (wc := [(mo, .inr (6, [.int (nI rf), .ref a1, .int (nI ln), .ref a2, .ref a3, .ref a4, .int (nI ac), .ref a5, .ref a6, .ref mw, .ref mh, .int (nI r_11.2), .int (nI ou)])), aI cy a1 120 (mS tx)]) (va_runV (As := [.int (nI r_11.1)]) (rest := []) ⟨hx, hb, hml, hown, hts⟩ (c_X8_cornerSign l g cy mo a1 a2 a3 a4 a5 a6 mw mh H.size rf ln ac r_11.2 ou tx r_11.1 htx (by omega) (by omega) (by omega)) ⟨(cB 1 hts wd11_16 wd1_5 wd11_13 rfl rfl (by decide +kernel) ⟨Nat.le_of_ble_eq_true rfl, Nat.le_of_ble_eq_true rfl⟩), hts _ wd11_14, hts _ wd11_15⟩ (pv hK hP hD hS hA hX [0, 1] rfl rfl 6 0 rfl rfl) rfl rfl hl.1 rfl (lv_room (Nat.le_of_ble_eq_true rfl)) dX8_readFind_17 ⟨Nat.zero_le _, Nat.zero_le _⟩) hP hD hS hA [0, 1] rfl rfl (fun _ => (rfl : ([mo, a1] : List Nat) = [mo, a1])) ?_
  rintro r_17 H locs hr_17 hP hD hS
  have hP : va_P g vwCl [(mo, .inr (6, [.int (nI rf), .ref a1, .int (nI ln), .ref a2, .ref a3, .ref a4, .int (nI ac), .ref a5, .ref a6, .ref mw, .ref mh, .int (nI r_17.2), .int (nI ou)])), aI cy a1 120 (mS tx), aI cy mw 144 (mS wy), aI cy mh 8 (mS w9), aI cy sa 248 (mS σ)] H := hP
  have hD : va_D A [(mo, .inr (6, [.int (nI rf), .ref a1, .int (nI ln), .ref a2, .ref a3, .ref a4, .int (nI ac), .ref a5, .ref a6, .ref mw, .ref mh, .int (nI r_17.2), .int (nI ou)])), aI cy a1 120 (mS tx), aI cy mw 144 (mS wy), aI cy mh 8 (mS w9), aI cy sa 248 (mS σ)] := hD
  have hr_17 : r_17 = fgF tx ln r_11.1 2 0 11 r_11.2 := hr_17
  show W _ _ _ _ _ _ _ _ _ _ _ _ _ _ _ (F0 mX 20 ls [.int (nI r_17.1)])
  have hpv_17 := fg_p hr_17
  have hvv_17 := fg_v (by decide) hr_17
  have hrd := rd3 (x1 := (1, 0, 5)) (x2 := (1, 0, 7)) (x3 := (2, 0, 11)) (f := z9) (by decide) (by decide) (by decide) hr_5 hr_11 hr_17
  rw [show [(1, 0, 5), (1, 0, 7), (2, 0, 11)] = lsF9 from rfl] at hrd
  refine lv_istore (lv' := [(4, .int (nI r_17.1)), (3, .int (nI r_11.1)), (2, .int (nI r_5.1)), (0, .ref mo), (1, .ref sa)]) hx hb dX8_readFind_20 hl (by decide) rfl (fun ls hl => ?_)
  refine lv_iload hx hb dX8_readFind_22 (lv_at hl 0 rfl) ?_
  refine lv_iconst (v := (nI NN)) hx hb dX8_readFind_24 (by decide) ?_
  refine lv_icmp_eq (tgt := 72) hx hb dX8_readFind_25 (by decide) (fun c_25 => ?_) (fun c_25 => ?_)
  · have c_25 := (nc_eq9 (by omega) (by decide) c_25)
    refine lv_iconst (v := (nI 0)) hx hb dX8_readFind_72 (by decide) ?_
    exact wr_z (b := false) ((rdL tx ln lsF9 p 0 z9), σ, ou, wy, w9) rfl (by dsimp only; rw [hrd.1, nn9_f c_25]) ⟨rfl, (fun h9 => absurd h9 (by dsimp only; rw [hrd.1, nn9_f c_25]; decide))⟩ (by dsimp only; rw [hrd.2.1]; exact hP) hS hx hb hr dX8_readFind_73 hlk
  · have c_25 := (nc_ne9 (by omega) (by decide) c_25)
    obtain ⟨n11, l17, h17⟩ := fg_r hr_17 (by decide) c_25
    obtain ⟨n5, l11, h11⟩ := fg_r hr_11 (by decide) n11
    obtain ⟨_, l5, h5⟩ := fg_r hr_5 (by decide) n5
    have hmq := ml_find hwf ⟨l5, h5⟩ ⟨l11, h11⟩ ⟨l17, h17⟩
    refine lv_aload_n hx hb dX8_readFind_28 rfl (lv_at hl 3 rfl) ?_
    refine lv_aload_n hx hb dX8_readFind_29 rfl (lv_at hl 4 rfl) ?_
    refine lv_iload_n hx hb dX8_readFind_30 rfl (lv_at hl 2 rfl) ?_
    refine rd_call (va_runS (As := [.ref sa, .int (nI r_5.1)]) (rest := [.ref mo]) ⟨hx, hb, hml, hown, hts⟩ (c_X8_isDog l g cy sa H.size σ (nI r_5.1) (by omega)) ⟨(cB 2 hts wd13_12 wd1_5 wd13_10 rfl rfl (by decide +kernel) ⟨Nat.le_of_ble_eq_true rfl, Nat.le_of_ble_eq_true rfl⟩), hts _ wd13_11⟩ (ps hK hP hD hS hA hX [4] rfl rfl) rfl rfl hl.1 rfl (lv_room (Nat.le_of_ble_eq_true rfl)) dX8_readFind_31 ⟨Nat.zero_le _, Nat.zero_le _⟩) ?_
    show W _ _ _ _ _ _ _ _ _ _ _ _ _ _ _ (F0 mX 34 ls [.int (bI (hasR (σ 0) (nI r_5.1))), .ref mo])
    refine ti (show (bI (hasR (σ 0) (nI r_5.1))) = (bI (decide (r_5.1 < σ 0))) from (congrArg bI (hasR_n (by omega) (by omega)))) ?_
    refine lv_if_eq (tgt := 61) hx hb dX8_readFind_34 (by decide) (fun c_34 => ?_) (fun c_34 => ?_)
    · have c_34 := (bI_eq0.mp c_34)
      have c_34 : ¬ r_5.1 < σ 0 := of_decide_eq_false c_34
      refine lv_iconst (v := (nI 0)) hx hb dX8_readFind_61 (by decide) ?_
      refine ti (show (nI 0) = (bI false) from rfl) ?_
      refine wr_call (wc := [(mo, .inr (6, [.int (nI rf), .ref a1, .int (nI ln), .ref a2, .ref a3, .ref a4, .int (nI ac), .ref a5, .ref a6, .ref mw, .ref mh, .int (nI r_17.2), .int (nI ou)]))]) (va_runV (As := [.int (bI false)]) (rest := []) ⟨hx, hb, hml, hown, hts⟩ (c_X8_done l g cy mo a1 a2 a3 a4 a5 a6 mw mh H.size rf ln ac r_17.2 ou false ) ⟨(cB 1 hts wd11_23 wd1_5 wd11_20 rfl rfl (by decide +kernel) ⟨Nat.le_of_ble_eq_true rfl, Nat.le_of_ble_eq_true rfl⟩), hts _ wd11_21, hts _ wd11_22⟩ (pv hK hP hD hS hA hX [0] rfl rfl 6 0 rfl rfl) rfl rfl hl.1 rfl (lv_room (Nat.le_of_ble_eq_true rfl)) dX8_readFind_62 ⟨Nat.zero_le _, Nat.zero_le _⟩) hP hD hS hA [0] rfl rfl (fun _ => (rfl : ([mo] : List Nat) = [mo])) ?_
      rintro _u9 H locs - hP hD hS
      have hP : va_P g vwCl [(mo, .inr (6, [.int (nI rf), .ref a1, .int (nI ln), .ref a2, .ref a3, .ref a4, .int (nI ac), .ref a5, .ref a6, .ref mw, .ref mh, .int (nI r_17.2), .int (nI (ou + (if false = true then 0 else 1)))])), aI cy a1 120 (mS tx), aI cy mw 144 (mS wy), aI cy mh 8 (mS w9), aI cy sa 248 (mS σ)] H := hP
      have hD : va_D A [(mo, .inr (6, [.int (nI rf), .ref a1, .int (nI ln), .ref a2, .ref a3, .ref a4, .int (nI ac), .ref a5, .ref a6, .ref mw, .ref mh, .int (nI r_17.2), .int (nI (ou + (if false = true then 0 else 1)))])), aI cy a1 120 (mS tx), aI cy mw 144 (mS wy), aI cy mh 8 (mS w9), aI cy sa 248 (mS σ)] := hD
      show W _ _ _ _ _ _ _ _ _ _ _ _ _ _ _ (F0 mX 65 ls [.int (bI true)])
      refine lv_if_eq (tgt := 72) hx hb dX8_readFind_65 (by decide) (fun c_65 => ?_) (fun c_65 => ?_)
      · have c_65 := (bI_eq0.mp c_65)
        exact absurd c_65 (by decide)
      · have c_65 := (bI_ne0.mp c_65)
        refine lv_iconst (v := (nI 1)) hx hb dX8_readFind_68 (by decide) ?_
        refine lv_goto (tgt := 73) hx hb dX8_readFind_69 (by decide) ?_
        exact wr_z (b := true) ((rdL tx ln lsF9 p 0 z9), σ, (ou + (if false = true then 0 else 1)), wy, w9) rfl (by dsimp only; rw [hrd.1, nn9_t c_25]) ⟨rfl, (fun _ => by dsimp only; rw [show (rdL tx ln lsF9 p 0 z9).2.2 = pf3 r_5.1 r_11.1 r_17.1 from hrd.2.2 c_25]; exact ⟨(hmq.2 (Or.inl c_34)).1.symm, by rw [if_pos (hmq.2 (Or.inl c_34)).2]; rfl⟩)⟩ (by dsimp only; rw [hrd.2.1]; exact hP) hS hx hb hr dX8_readFind_73 hlk
    · have c_34 := (bI_ne0.mp c_34)
      have c_34 : r_5.1 < σ 0 := of_decide_eq_true c_34
      have hdb := hwf.db c_34
      refine lv_aload_n hx hb dX8_readFind_37 rfl (lv_at hl 4 rfl) ?_
      refine lv_iload_n hx hb dX8_readFind_38 rfl (lv_at hl 2 rfl) ?_
      refine rd_call (va_runS (As := [.ref sa, .int (nI r_5.1)]) (rest := [.ref mo]) ⟨hx, hb, hml, hown, hts⟩ (c_X8_isMissing l g cy sa H.size σ r_5.1 (by omega) (by omega)) ⟨(cB 2 hts wd12_20 wd1_5 wd12_18 rfl rfl (by decide +kernel) ⟨Nat.le_of_ble_eq_true rfl, Nat.le_of_ble_eq_true rfl⟩), hts _ wd12_19⟩ (ps hK hP hD hS hA hX [4] rfl rfl) rfl rfl hl.1 rfl (lv_room (Nat.le_of_ble_eq_true rfl)) dX8_readFind_39 ⟨Nat.zero_le _, Nat.zero_le _⟩) ?_
      show W _ _ _ _ _ _ _ _ _ _ _ _ _ _ _ (F0 mX 42 ls [.int (bI (msg σ r_5.1)), .ref mo])
      refine lv_if_eq (tgt := 61) hx hb dX8_readFind_42 (by decide) (fun c_42 => ?_) (fun c_42 => ?_)
      · have c_42 := (bI_eq0.mp c_42)
        refine lv_iconst (v := (nI 0)) hx hb dX8_readFind_61 (by decide) ?_
        refine ti (show (nI 0) = (bI false) from rfl) ?_
        refine wr_call (wc := [(mo, .inr (6, [.int (nI rf), .ref a1, .int (nI ln), .ref a2, .ref a3, .ref a4, .int (nI ac), .ref a5, .ref a6, .ref mw, .ref mh, .int (nI r_17.2), .int (nI ou)]))]) (va_runV (As := [.int (bI false)]) (rest := []) ⟨hx, hb, hml, hown, hts⟩ (c_X8_done l g cy mo a1 a2 a3 a4 a5 a6 mw mh H.size rf ln ac r_17.2 ou false ) ⟨(cB 1 hts wd11_23 wd1_5 wd11_20 rfl rfl (by decide +kernel) ⟨Nat.le_of_ble_eq_true rfl, Nat.le_of_ble_eq_true rfl⟩), hts _ wd11_21, hts _ wd11_22⟩ (pv hK hP hD hS hA hX [0] rfl rfl 6 0 rfl rfl) rfl rfl hl.1 rfl (lv_room (Nat.le_of_ble_eq_true rfl)) dX8_readFind_62 ⟨Nat.zero_le _, Nat.zero_le _⟩) hP hD hS hA [0] rfl rfl (fun _ => (rfl : ([mo] : List Nat) = [mo])) ?_
        rintro _u9 H locs - hP hD hS
        have hP : va_P g vwCl [(mo, .inr (6, [.int (nI rf), .ref a1, .int (nI ln), .ref a2, .ref a3, .ref a4, .int (nI ac), .ref a5, .ref a6, .ref mw, .ref mh, .int (nI r_17.2), .int (nI (ou + (if false = true then 0 else 1)))])), aI cy a1 120 (mS tx), aI cy mw 144 (mS wy), aI cy mh 8 (mS w9), aI cy sa 248 (mS σ)] H := hP
        have hD : va_D A [(mo, .inr (6, [.int (nI rf), .ref a1, .int (nI ln), .ref a2, .ref a3, .ref a4, .int (nI ac), .ref a5, .ref a6, .ref mw, .ref mh, .int (nI r_17.2), .int (nI (ou + (if false = true then 0 else 1)))])), aI cy a1 120 (mS tx), aI cy mw 144 (mS wy), aI cy mh 8 (mS w9), aI cy sa 248 (mS σ)] := hD
        show W _ _ _ _ _ _ _ _ _ _ _ _ _ _ _ (F0 mX 65 ls [.int (bI true)])
        refine lv_if_eq (tgt := 72) hx hb dX8_readFind_65 (by decide) (fun c_65 => ?_) (fun c_65 => ?_)
        · have c_65 := (bI_eq0.mp c_65)
          exact absurd c_65 (by decide)
        · have c_65 := (bI_ne0.mp c_65)
          refine lv_iconst (v := (nI 1)) hx hb dX8_readFind_68 (by decide) ?_
          refine lv_goto (tgt := 73) hx hb dX8_readFind_69 (by decide) ?_
          exact wr_z (b := true) ((rdL tx ln lsF9 p 0 z9), σ, (ou + (if false = true then 0 else 1)), wy, w9) rfl (by dsimp only; rw [hrd.1, nn9_t c_25]) ⟨rfl, (fun _ => by dsimp only; rw [show (rdL tx ln lsF9 p 0 z9).2.2 = pf3 r_5.1 r_11.1 r_17.1 from hrd.2.2 c_25]; exact ⟨(hmq.2 (Or.inr c_42)).1.symm, by rw [if_pos (hmq.2 (Or.inr c_42)).2]; rfl⟩)⟩ (by dsimp only; rw [hrd.2.1]; exact hP) hS hx hb hr dX8_readFind_73 hlk
      · have c_42 := (bI_ne0.mp c_42)
        have hq9 := shr_le (d := r_5.1) (c := r_17.1) (k := r_11.1 + 1) hwf (show r_11.1 < 8 by omega) (by omega)
        have hq8 : sm (shr σ r_5.1 r_11.1 r_17.1) (r_11.1 + 1) = sm (shr σ r_5.1 r_11.1 r_17.1) r_11.1 + shr σ r_5.1 r_11.1 r_17.1 r_11.1 := rfl
        refine lv_aload_n hx hb dX8_readFind_45 rfl (lv_at hl 3 rfl) ?_
        refine lv_aload_n hx hb dX8_readFind_46 rfl (lv_at hl 4 rfl) ?_
        refine lv_iload_n hx hb dX8_readFind_47 rfl (lv_at hl 2 rfl) ?_
        refine lv_iload_n hx hb dX8_readFind_48 rfl (lv_at hl 1 rfl) ?_
        refine lv_iload hx hb dX8_readFind_49 (lv_at hl 0 rfl) ?_
        refine wr_call (wc := [(mo, .inr (6, [.int (nI rf), .ref a1, .int (nI ln), .ref a2, .ref a3, .ref a4, .int (nI ac), .ref a5, .ref a6, .ref mw, .ref mh, .int (nI r_17.2), .int (nI ou)])), aI cy mw 144 (mS wy), aI cy mh 8 (mS w9), aI cy sa 248 (mS σ)]) (va_runV (As := [.ref sa, .int (nI r_5.1), .int (nI r_11.1), .int (nI r_17.1)]) (rest := [.ref mo]) ⟨hx, hb, hml, hown, hts⟩ (c_X8_findOn l g cy mo a1 a2 a3 a4 a5 a6 mw mh sa H.size rf ln ac r_17.2 ou wy σ bd w9 r_5.1 r_11.1 r_17.1 hwf (by omega) (by omega) (by omega) (by omega)) ⟨(cB 4 hts wd13_16 wd1_5 wd13_13 rfl rfl (by decide +kernel) ⟨Nat.le_of_ble_eq_true rfl, Nat.le_of_ble_eq_true rfl⟩), hts _ wd13_14, hts _ wd13_15⟩ (pv hK hP hD hS hA hX [0, 2, 3, 4] rfl rfl 6 0 rfl rfl) rfl rfl hl.1 rfl (lv_room (Nat.le_of_ble_eq_true rfl)) dX8_readFind_51 ⟨Nat.zero_le _, Nat.zero_le _⟩) hP hD hS hA [0, 2, 3, 4] rfl rfl (fun _ => (rfl : ([mo, mw, mh, sa] : List Nat) = [mo, mw, mh, sa])) ?_
        rintro _u9 H locs - hP hD hS
        have hP : va_P g vwCl [(mo, .inr (6, [.int (nI rf), .ref a1, .int (nI ln), .ref a2, .ref a3, .ref a4, .int (nI ac), .ref a5, .ref a6, .ref mw, .ref mh, .int (nI r_17.2), .int (nI ou)])), aI cy a1 120 (mS tx), aI cy mw 144 (mS (D σ)), aI cy mh 8 (mS (hOf σ r_5.1 r_11.1 r_17.1)), aI cy sa 248 (mS (findS σ r_5.1 r_11.1 r_17.1))] H := hP
        have hD : va_D A [(mo, .inr (6, [.int (nI rf), .ref a1, .int (nI ln), .ref a2, .ref a3, .ref a4, .int (nI ac), .ref a5, .ref a6, .ref mw, .ref mh, .int (nI r_17.2), .int (nI ou)])), aI cy a1 120 (mS tx), aI cy mw 144 (mS (D σ)), aI cy mh 8 (mS (hOf σ r_5.1 r_11.1 r_17.1)), aI cy sa 248 (mS (findS σ r_5.1 r_11.1 r_17.1))] := hD
        show W _ _ _ _ _ _ _ _ _ _ _ _ _ _ _ (F0 mX 54 ls [.int (nI (shr σ r_5.1 r_11.1 r_17.1 r_11.1)), .ref mo])
        refine lv_if_lt (tgt := 61) hx hb dX8_readFind_54 (by decide) (fun c_54 => ?_) (fun c_54 => ?_)
        · exact absurd c_54 (nI_pos (by omega))
        · skip
          refine lv_iconst (v := (nI 1)) hx hb dX8_readFind_57 (by decide) ?_
          refine ti (show (nI 1) = (bI true) from rfl) ?_
          refine lv_goto (tgt := 62) hx hb dX8_readFind_58 (by decide) ?_
          refine wr_call (wc := [(mo, .inr (6, [.int (nI rf), .ref a1, .int (nI ln), .ref a2, .ref a3, .ref a4, .int (nI ac), .ref a5, .ref a6, .ref mw, .ref mh, .int (nI r_17.2), .int (nI ou)]))]) (va_runV (As := [.int (bI true)]) (rest := []) ⟨hx, hb, hml, hown, hts⟩ (c_X8_done l g cy mo a1 a2 a3 a4 a5 a6 mw mh H.size rf ln ac r_17.2 ou true ) ⟨(cB 1 hts wd11_23 wd1_5 wd11_20 rfl rfl (by decide +kernel) ⟨Nat.le_of_ble_eq_true rfl, Nat.le_of_ble_eq_true rfl⟩), hts _ wd11_21, hts _ wd11_22⟩ (pv hK hP hD hS hA hX [0] rfl rfl 6 0 rfl rfl) rfl rfl hl.1 rfl (lv_room (Nat.le_of_ble_eq_true rfl)) dX8_readFind_62 ⟨Nat.zero_le _, Nat.zero_le _⟩) hP hD hS hA [0] rfl rfl (fun _ => (rfl : ([mo] : List Nat) = [mo])) ?_
          rintro _u9 H locs - hP hD hS
          have hP : va_P g vwCl [(mo, .inr (6, [.int (nI rf), .ref a1, .int (nI ln), .ref a2, .ref a3, .ref a4, .int (nI ac), .ref a5, .ref a6, .ref mw, .ref mh, .int (nI r_17.2), .int (nI (ou + (if true = true then 0 else 1)))])), aI cy a1 120 (mS tx), aI cy mw 144 (mS (D σ)), aI cy mh 8 (mS (hOf σ r_5.1 r_11.1 r_17.1)), aI cy sa 248 (mS (findS σ r_5.1 r_11.1 r_17.1))] H := hP
          have hD : va_D A [(mo, .inr (6, [.int (nI rf), .ref a1, .int (nI ln), .ref a2, .ref a3, .ref a4, .int (nI ac), .ref a5, .ref a6, .ref mw, .ref mh, .int (nI r_17.2), .int (nI (ou + (if true = true then 0 else 1)))])), aI cy a1 120 (mS tx), aI cy mw 144 (mS (D σ)), aI cy mh 8 (mS (hOf σ r_5.1 r_11.1 r_17.1)), aI cy sa 248 (mS (findS σ r_5.1 r_11.1 r_17.1))] := hD
          show W _ _ _ _ _ _ _ _ _ _ _ _ _ _ _ (F0 mX 65 ls [.int (bI true)])
          refine lv_if_eq (tgt := 72) hx hb dX8_readFind_65 (by decide) (fun c_65 => ?_) (fun c_65 => ?_)
          · have c_65 := (bI_eq0.mp c_65)
            exact absurd c_65 (by decide)
          · have c_65 := (bI_ne0.mp c_65)
            refine lv_iconst (v := (nI 1)) hx hb dX8_readFind_68 (by decide) ?_
            refine lv_goto (tgt := 73) hx hb dX8_readFind_69 (by decide) ?_
            exact wr_z (b := true) ((rdL tx ln lsF9 p 0 z9), (findS σ r_5.1 r_11.1 r_17.1), (ou + (if true = true then 0 else 1)), (D σ), (hOf σ r_5.1 r_11.1 r_17.1)) rfl (by dsimp only; rw [hrd.1, nn9_t c_25]) ⟨rfl, (fun _ => by dsimp only; rw [show (rdL tx ln lsF9 p 0 z9).2.2 = pf3 r_5.1 r_11.1 r_17.1 from hrd.2.2 c_25]; exact ⟨(hmq.1 c_34 c_42).1.symm, by rw [if_neg (hmq.1 c_34 c_42).2]; rfl⟩)⟩ (by dsimp only; rw [hrd.2.1]; exact hP) hS hx hb hr dX8_readFind_73 hlk
set_option maxHeartbeats 4000000 in
set_option maxRecDepth 100000 in
theorem c_X8_readClose (l : Launch) (g : va_G) (cy : Nat → ClassId) (mo a1 a2 a3 a4 a5 a6 mw mh sa : Nat) (sz : Nat) (rf : Nat) (ln : Nat) (ac : Nat) (p : Nat) (ou : Nat) (tx : Nat → Nat) (wy : Nat → Nat) (w9 : Nat → Nat) (σ : Nat → Nat) (bd : Nat) (hwf : WF bd σ) (htx : ∀ i9, tx i9 < 256) (hln : ln ≤ 120) (hpp : p ≤ 400) : Met l yX8_readClose (Cond.code yX8_readClose cX8_readClose 5 (some .boolean) :: wsL_law) ({ frames := 3, cells := 0, slots := 0, locals := 74 } : Room) (va_Pc [.ref mo, .ref sa] (pr g cy [(mo, .inr (6, [.int (nI rf), .ref a1, .int (nI ln), .ref a2, .ref a3, .ref a4, .int (nI ac), .ref a5, .ref a6, .ref mw, .ref mh, .int (nI p), .int (nI ou)])), aI cy a1 120 (mS tx), aI cy mw 144 (mS wy), aI cy mh 8 (mS w9), aI cy sa 248 (mS σ)] sz)) (wr_Q (fun u9 : (Bool × Nat × (Nat → Nat)) × (Nat → Nat) × (Nat) × (Nat → Nat) × (Nat → Nat) => (some (.int (bI u9.1.1)))) (fun u9 : (Bool × Nat × (Nat → Nat)) × (Nat → Nat) × (Nat) × (Nat → Nat) × (Nat → Nat) => (u9.1 = rdL tx ln lsX9 p 0 z9) ∧ (u9.1.1 = true → u9.2.1 = doR 120 u9.1.2.2 σ ∧ u9.2.2.1 = ou + (if nI (doA 120 u9.1.2.2 σ) = nI NN2 then 1 else 0))) (fun u9 : (Bool × Nat × (Nat → Nat)) × (Nat → Nat) × (Nat) × (Nat → Nat) × (Nat → Nat) => [(mo, .inr (6, [.int (nI rf), .ref a1, .int (nI ln), .ref a2, .ref a3, .ref a4, .int (nI ac), .ref a5, .ref a6, .ref mw, .ref mh, .int (nI u9.1.2.1), .int (nI u9.2.2.1)])), aI cy a1 120 (mS tx), aI cy mw 144 (mS u9.2.2.2.1), aI cy mh 8 (mS u9.2.2.2.2), aI cy sa 248 (mS u9.2.1)]) g (va_A [(mo, .inr (6, [.int (nI rf), .ref a1, .int (nI ln), .ref a2, .ref a3, .ref a4, .int (nI ac), .ref a5, .ref a6, .ref mw, .ref mh, .int (nI p), .int (nI ou)])), aI cy a1 120 (mS tx), aI cy mw 144 (mS wy), aI cy mh 8 (mS w9), aI cy sa 248 (mS σ)] sz)) 0 0 (va_A [(mo, .inr (6, [.int (nI rf), .ref a1, .int (nI ln), .ref a2, .ref a3, .ref a4, .int (nI ac), .ref a5, .ref a6, .ref mw, .ref mh, .int (nI p), .int (nI ou)])), aI cy a1 120 (mS tx), aI cy mw 144 (mS wy), aI cy mh 8 (mS w9), aI cy sa 248 (mS σ)] sz) := by
  refine mt_of (cc := cX8_readClose) (maxL := 5) (ret := (some .boolean)) (by decide +kernel) (Nat.le_of_ble_eq_true rfl) ?_
  intro pX eX s mX below meth cX ls A hx hb hr hml hown hts hlk hin hsz hAe hA hP hD hK hX hl
  subst hsz
  rw [← hAe]
  clear hAe
  have hl : lv_has ls 5 [(0, .ref mo), (1, .ref sa)] := hl
  have hS : va_S A s.heap s.heap [] := va_S.rf
  have hn0 := hwf.n0
  have hn1 := hwf.n1
  have hh2 := hwf.h2
  refine lv_aload_n hx hb dX8_readClose_0 rfl (lv_at hl 0 rfl) ?_
  refine lv_iconst (v := (nI 0)) hx hb dX8_readClose_1 (by decide) ?_
  refine wr_call (wc := [(mo, .inr (6, [.int (nI rf), .ref a1, .int (nI ln), .ref a2, .ref a3, .ref a4, .int (nI ac), .ref a5, .ref a6, .ref mw, .ref mh, .int (nI p), .int (nI ou)])), aI cy a1 120 (mS tx)]) (va_runV (As := [.int (nI 0)]) (rest := []) ⟨hx, hb, hml, hown, hts⟩ (c_X8_cornerSign l g cy mo a1 a2 a3 a4 a5 a6 mw mh s.heap.size rf ln ac p ou tx 0 htx (by omega) (by omega) ⟨Or.inr (by decide), by decide⟩) ⟨(cB 1 hts wd11_16 wd1_5 wd11_13 rfl rfl (by decide +kernel) ⟨Nat.le_of_ble_eq_true rfl, Nat.le_of_ble_eq_true rfl⟩), hts _ wd11_14, hts _ wd11_15⟩ (pv hK hP hD hS hA hX [0, 1] rfl rfl 6 0 rfl rfl) rfl rfl hl.1 rfl (lv_room (Nat.le_of_ble_eq_true rfl)) dX8_readClose_2 ⟨Nat.zero_le _, Nat.zero_le _⟩) hP hD hS hA [0, 1] rfl rfl (fun _ => (rfl : ([mo, a1] : List Nat) = [mo, a1])) ?_
  rintro r_2 H locs hr_2 hP hD hS
  have hP : va_P g vwCl [(mo, .inr (6, [.int (nI rf), .ref a1, .int (nI ln), .ref a2, .ref a3, .ref a4, .int (nI ac), .ref a5, .ref a6, .ref mw, .ref mh, .int (nI r_2.2), .int (nI ou)])), aI cy a1 120 (mS tx), aI cy mw 144 (mS wy), aI cy mh 8 (mS w9), aI cy sa 248 (mS σ)] H := hP
  have hD : va_D A [(mo, .inr (6, [.int (nI rf), .ref a1, .int (nI ln), .ref a2, .ref a3, .ref a4, .int (nI ac), .ref a5, .ref a6, .ref mw, .ref mh, .int (nI r_2.2), .int (nI ou)])), aI cy a1 120 (mS tx), aI cy mw 144 (mS wy), aI cy mh 8 (mS w9), aI cy sa 248 (mS σ)] := hD
  have hr_2 : r_2 = fgF tx ln 0 2 0 11 p := hr_2
  show W _ _ _ _ _ _ _ _ _ _ _ _ _ _ _ (F0 mX 5 ls [.int (nI r_2.1)])
  have hpv_2 := fg_p hr_2
  have hvv_2 := fg_v (by decide) hr_2
  refine lv_istore_n (lv' := [(2, .int (nI r_2.1)), (0, .ref mo), (1, .ref sa)]) hx hb dX8_readClose_5 rfl hl (by decide) rfl (fun ls hl => ?_)
  refine lv_aload_n hx hb dX8_readClose_6 rfl (lv_at hl 1 rfl) ?_
  refine lv_iload_n hx hb dX8_readClose_7 rfl (lv_at hl 0 rfl) ?_
  refine wr_call (wc := [(mo, .inr (6, [.int (nI rf), .ref a1, .int (nI ln), .ref a2, .ref a3, .ref a4, .int (nI ac), .ref a5, .ref a6, .ref mw, .ref mh, .int (nI r_2.2), .int (nI ou)])), aI cy a1 120 (mS tx)]) (va_runV (As := [.int (nI r_2.1)]) (rest := []) ⟨hx, hb, hml, hown, hts⟩ (c_X8_cornerSign l g cy mo a1 a2 a3 a4 a5 a6 mw mh H.size rf ln ac r_2.2 ou tx r_2.1 htx (by omega) (by omega) (by omega)) ⟨(cB 1 hts wd11_16 wd1_5 wd11_13 rfl rfl (by decide +kernel) ⟨Nat.le_of_ble_eq_true rfl, Nat.le_of_ble_eq_true rfl⟩), hts _ wd11_14, hts _ wd11_15⟩ (pv hK hP hD hS hA hX [0, 1] rfl rfl 6 0 rfl rfl) rfl rfl hl.1 rfl (lv_room (Nat.le_of_ble_eq_true rfl)) dX8_readClose_8 ⟨Nat.zero_le _, Nat.zero_le _⟩) hP hD hS hA [0, 1] rfl rfl (fun _ => (rfl : ([mo, a1] : List Nat) = [mo, a1])) ?_
  rintro r_8 H locs hr_8 hP hD hS
  have hP : va_P g vwCl [(mo, .inr (6, [.int (nI rf), .ref a1, .int (nI ln), .ref a2, .ref a3, .ref a4, .int (nI ac), .ref a5, .ref a6, .ref mw, .ref mh, .int (nI r_8.2), .int (nI ou)])), aI cy a1 120 (mS tx), aI cy mw 144 (mS wy), aI cy mh 8 (mS w9), aI cy sa 248 (mS σ)] H := hP
  have hD : va_D A [(mo, .inr (6, [.int (nI rf), .ref a1, .int (nI ln), .ref a2, .ref a3, .ref a4, .int (nI ac), .ref a5, .ref a6, .ref mw, .ref mh, .int (nI r_8.2), .int (nI ou)])), aI cy a1 120 (mS tx), aI cy mw 144 (mS wy), aI cy mh 8 (mS w9), aI cy sa 248 (mS σ)] := hD
  have hr_8 : r_8 = fgF tx ln r_2.1 2 0 11 r_2.2 := hr_8
  show W _ _ _ _ _ _ _ _ _ _ _ _ _ _ _ (F0 mX 11 ls [.int (nI r_8.1)])
  have hpv_8 := fg_p hr_8
  have hvv_8 := fg_v (by decide) hr_8
  refine lv_istore_n (lv' := [(3, .int (nI r_8.1)), (2, .int (nI r_2.1)), (0, .ref mo), (1, .ref sa)]) hx hb dX8_readClose_11 rfl hl (by decide) rfl (fun ls hl => ?_)
  refine lv_aload_n hx hb dX8_readClose_12 rfl (lv_at hl 2 rfl) ?_
  refine lv_iload_n hx hb dX8_readClose_13 rfl (lv_at hl 0 rfl) ?_
  refine wr_call (wc := [(mo, .inr (6, [.int (nI rf), .ref a1, .int (nI ln), .ref a2, .ref a3, .ref a4, .int (nI ac), .ref a5, .ref a6, .ref mw, .ref mh, .int (nI r_8.2), .int (nI ou)])), aI cy a1 120 (mS tx)]) (va_runV (As := [.int (nI r_8.1)]) (rest := []) ⟨hx, hb, hml, hown, hts⟩ (c_X8_plusSign l g cy mo a1 a2 a3 a4 a5 a6 mw mh H.size rf ln ac r_8.2 ou tx r_8.1 htx (by omega) (by omega) (by omega)) ⟨(cB 1 hts wd12_11 wd1_5 wd12_8 rfl rfl (by decide +kernel) ⟨Nat.le_of_ble_eq_true rfl, Nat.le_of_ble_eq_true rfl⟩), hts _ wd12_9, hts _ wd12_10⟩ (pv hK hP hD hS hA hX [0, 1] rfl rfl 6 0 rfl rfl) rfl rfl hl.1 rfl (lv_room (Nat.le_of_ble_eq_true rfl)) dX8_readClose_14 ⟨Nat.zero_le _, Nat.zero_le _⟩) hP hD hS hA [0, 1] rfl rfl (fun _ => (rfl : ([mo, a1] : List Nat) = [mo, a1])) ?_
  rintro r_14 H locs hr_14 hP hD hS
  have hP : va_P g vwCl [(mo, .inr (6, [.int (nI rf), .ref a1, .int (nI ln), .ref a2, .ref a3, .ref a4, .int (nI ac), .ref a5, .ref a6, .ref mw, .ref mh, .int (nI r_14.2), .int (nI ou)])), aI cy a1 120 (mS tx), aI cy mw 144 (mS wy), aI cy mh 8 (mS w9), aI cy sa 248 (mS σ)] H := hP
  have hD : va_D A [(mo, .inr (6, [.int (nI rf), .ref a1, .int (nI ln), .ref a2, .ref a3, .ref a4, .int (nI ac), .ref a5, .ref a6, .ref mw, .ref mh, .int (nI r_14.2), .int (nI ou)])), aI cy a1 120 (mS tx), aI cy mw 144 (mS wy), aI cy mh 8 (mS w9), aI cy sa 248 (mS σ)] := hD
  have hr_14 : r_14 = fgF tx ln r_8.1 0 0 0 r_8.2 := hr_14
  show W _ _ _ _ _ _ _ _ _ _ _ _ _ _ _ (F0 mX 17 ls [.int (nI r_14.1)])
  have hpv_14 := fg_p hr_14
  have hvv_14 := fg_v (by decide) hr_14
  have hrd := rd3 (x1 := (2, 0, 11)) (x2 := (2, 0, 11)) (x3 := (0, 0, 0)) (f := z9) (by decide) (by decide) (by decide) hr_2 hr_8 hr_14
  rw [show [(2, 0, 11), (2, 0, 11), (0, 0, 0)] = lsX9 from rfl] at hrd
  refine lv_istore (lv' := [(4, .int (nI r_14.1)), (3, .int (nI r_8.1)), (2, .int (nI r_2.1)), (0, .ref mo), (1, .ref sa)]) hx hb dX8_readClose_17 hl (by decide) rfl (fun ls hl => ?_)
  refine lv_iload hx hb dX8_readClose_19 (lv_at hl 0 rfl) ?_
  refine lv_iconst (v := (nI NN)) hx hb dX8_readClose_21 (by decide) ?_
  refine lv_icmp_eq (tgt := 70) hx hb dX8_readClose_22 (by decide) (fun c_22 => ?_) (fun c_22 => ?_)
  · have c_22 := (nc_eq9 (by omega) (by decide) c_22)
    refine lv_iconst (v := (nI 0)) hx hb dX8_readClose_70 (by decide) ?_
    exact wr_z (b := false) ((rdL tx ln lsX9 p 0 z9), σ, ou, wy, w9) rfl (by dsimp only; rw [hrd.1, nn9_f c_22]) ⟨rfl, (fun h9 => absurd h9 (by dsimp only; rw [hrd.1, nn9_f c_22]; decide))⟩ (by dsimp only; rw [hrd.2.1]; exact hP) hS hx hb hr dX8_readClose_71 hlk
  · have c_22 := (nc_ne9 (by omega) (by decide) c_22)
    obtain ⟨n8, h14⟩ := fg_pl hr_14 c_22
    obtain ⟨n2, l8, h8⟩ := fg_r hr_8 (by decide) n8
    obtain ⟨_, l2, h2⟩ := fg_r hr_2 (by decide) n2
    have hmq := ml_close (σ := σ) ⟨l2, h2⟩ ⟨l8, h8⟩ h14
    have hst9 := stp_lt (a := r_2.1) (b := r_8.1) (by omega) (by omega)
    refine lv_aload_n hx hb dX8_readClose_25 rfl (lv_at hl 3 rfl) ?_
    refine lv_iload_n hx hb dX8_readClose_26 rfl (lv_at hl 2 rfl) ?_
    refine lv_iload_n hx hb dX8_readClose_27 rfl (lv_at hl 1 rfl) ?_
    refine rd_call (va_runS (As := [.int (nI r_2.1), .int (nI r_8.1)]) (rest := [.ref mo]) ⟨hx, hb, hml, hown, hts⟩ (c_X8_street l r_2.1 r_8.1 (by omega) (by omega)) ⟨(cB 2 hts wd13_23 wd1_5 wd13_21 rfl rfl (by decide +kernel) ⟨Nat.le_of_ble_eq_true rfl, Nat.le_of_ble_eq_true rfl⟩), hts _ wd13_22⟩ p0 rfl rfl hl.1 rfl (lv_room (Nat.le_of_ble_eq_true rfl)) dX8_readClose_28 ⟨Nat.zero_le _, Nat.zero_le _⟩) ?_
    show W _ _ _ _ _ _ _ _ _ _ _ _ _ _ _ (F0 mX 31 ls [.int (nI (stp r_2.1 r_8.1)), .ref mo])
    refine lv_iconst (v := (nI NN)) hx hb dX8_readClose_31 (by decide) ?_
    refine lv_icmp_eq (tgt := 59) hx hb dX8_readClose_32 (by decide) (fun c_32 => ?_) (fun c_32 => ?_)
    · have c_32 := (nc_eq9 (by omega) (by decide) c_32)
      refine lv_iconst (v := (nI 0)) hx hb dX8_readClose_59 (by decide) ?_
      refine ti (show (nI 0) = (bI false) from rfl) ?_
      refine wr_call (wc := [(mo, .inr (6, [.int (nI rf), .ref a1, .int (nI ln), .ref a2, .ref a3, .ref a4, .int (nI ac), .ref a5, .ref a6, .ref mw, .ref mh, .int (nI r_14.2), .int (nI ou)]))]) (va_runV (As := [.int (bI false)]) (rest := []) ⟨hx, hb, hml, hown, hts⟩ (c_X8_done l g cy mo a1 a2 a3 a4 a5 a6 mw mh H.size rf ln ac r_14.2 ou false ) ⟨(cB 1 hts wd11_23 wd1_5 wd11_20 rfl rfl (by decide +kernel) ⟨Nat.le_of_ble_eq_true rfl, Nat.le_of_ble_eq_true rfl⟩), hts _ wd11_21, hts _ wd11_22⟩ (pv hK hP hD hS hA hX [0] rfl rfl 6 0 rfl rfl) rfl rfl hl.1 rfl (lv_room (Nat.le_of_ble_eq_true rfl)) dX8_readClose_60 ⟨Nat.zero_le _, Nat.zero_le _⟩) hP hD hS hA [0] rfl rfl (fun _ => (rfl : ([mo] : List Nat) = [mo])) ?_
      rintro _u9 H locs - hP hD hS
      have hP : va_P g vwCl [(mo, .inr (6, [.int (nI rf), .ref a1, .int (nI ln), .ref a2, .ref a3, .ref a4, .int (nI ac), .ref a5, .ref a6, .ref mw, .ref mh, .int (nI r_14.2), .int (nI (ou + (if false = true then 0 else 1)))])), aI cy a1 120 (mS tx), aI cy mw 144 (mS wy), aI cy mh 8 (mS w9), aI cy sa 248 (mS σ)] H := hP
      have hD : va_D A [(mo, .inr (6, [.int (nI rf), .ref a1, .int (nI ln), .ref a2, .ref a3, .ref a4, .int (nI ac), .ref a5, .ref a6, .ref mw, .ref mh, .int (nI r_14.2), .int (nI (ou + (if false = true then 0 else 1)))])), aI cy a1 120 (mS tx), aI cy mw 144 (mS wy), aI cy mh 8 (mS w9), aI cy sa 248 (mS σ)] := hD
      show W _ _ _ _ _ _ _ _ _ _ _ _ _ _ _ (F0 mX 63 ls [.int (bI true)])
      refine lv_if_eq (tgt := 70) hx hb dX8_readClose_63 (by decide) (fun c_63 => ?_) (fun c_63 => ?_)
      · have c_63 := (bI_eq0.mp c_63)
        exact absurd c_63 (by decide)
      · have c_63 := (bI_ne0.mp c_63)
        refine lv_iconst (v := (nI 1)) hx hb dX8_readClose_66 (by decide) ?_
        refine lv_goto (tgt := 71) hx hb dX8_readClose_67 (by decide) ?_
        exact wr_z (b := true) ((rdL tx ln lsX9 p 0 z9), σ, (ou + (if false = true then 0 else 1)), wy, w9) rfl (by dsimp only; rw [hrd.1, nn9_t c_22]) ⟨rfl, (fun _ => by dsimp only; rw [show (rdL tx ln lsX9 p 0 z9).2.2 = pf3 r_2.1 r_8.1 r_14.1 from hrd.2.2 c_22]; exact ⟨(hmq.2 c_32).1.symm, by rw [if_pos (hmq.2 c_32).2]; rfl⟩)⟩ (by dsimp only; rw [hrd.2.1]; exact hP) hS hx hb hr dX8_readClose_71 hlk
    · have c_32 := (nc_ne9 (by omega) (by decide) c_32)
      obtain ⟨k9, hk9, hspl, hd1, hd2⟩ := hmq.1 c_32
      have hct9 := ct_small (σ := clS σ k9 (decide (r_14.1 = 1)))
      refine lv_aload_n hx hb dX8_readClose_35 rfl (lv_at hl 4 rfl) ?_
      refine lv_iload_n hx hb dX8_readClose_36 rfl (lv_at hl 2 rfl) ?_
      refine lv_iload_n hx hb dX8_readClose_37 rfl (lv_at hl 1 rfl) ?_
      refine jn_i (pcj := 49) (ls := ls) (st := [.int (nI r_8.1), .int (nI r_2.1), .ref sa, .ref mo]) (fun v9 => v9 = (bI (decide (r_14.1 = 1)))) ?_ (fun jn49 => ?_)
      · intro v9 hv9
        subst hv9
        refine wr_call (wc := [aI cy sa 248 (mS σ)]) (va_runS (As := [.ref sa, .int (nI r_2.1), .int (nI r_8.1), .int (bI (decide (r_14.1 = 1)))]) (rest := [.ref mo]) ⟨hx, hb, hml, hown, hts⟩ (c_X8_closeOn l g cy sa H.size σ bd r_2.1 r_8.1 k9 (decide (r_14.1 = 1)) hwf (by omega) (by omega) hk9 hspl) ⟨(cB 4 hts wd15_9 wd1_5 wd15_7 rfl rfl (by decide +kernel) ⟨Nat.le_of_ble_eq_true rfl, Nat.le_of_ble_eq_true rfl⟩), hts _ wd15_8⟩ (ps hK hP hD hS hA hX [4] rfl rfl) rfl rfl hl.1 rfl (lv_room (Nat.le_of_ble_eq_true rfl)) dX8_readClose_49 ⟨Nat.zero_le _, Nat.zero_le _⟩) hP hD hS hA [4] rfl rfl (fun _ => (rfl : ([sa] : List Nat) = [sa])) ?_
        rintro _u9 H locs - hP hD hS
        have hP : va_P g vwCl [(mo, .inr (6, [.int (nI rf), .ref a1, .int (nI ln), .ref a2, .ref a3, .ref a4, .int (nI ac), .ref a5, .ref a6, .ref mw, .ref mh, .int (nI r_14.2), .int (nI ou)])), aI cy a1 120 (mS tx), aI cy mw 144 (mS wy), aI cy mh 8 (mS w9), aI cy sa 248 (mS (clS σ k9 (decide (r_14.1 = 1))))] H := hP
        have hD : va_D A [(mo, .inr (6, [.int (nI rf), .ref a1, .int (nI ln), .ref a2, .ref a3, .ref a4, .int (nI ac), .ref a5, .ref a6, .ref mw, .ref mh, .int (nI r_14.2), .int (nI ou)])), aI cy a1 120 (mS tx), aI cy mw 144 (mS wy), aI cy mh 8 (mS w9), aI cy sa 248 (mS (clS σ k9 (decide (r_14.1 = 1))))] := hD
        show W _ _ _ _ _ _ _ _ _ _ _ _ _ _ _ (F0 mX 52 ls [.int (nI (ct (cmk (clS σ k9 (decide (r_14.1 = 1)))).testBit 24)), .ref mo])
        refine lv_if_lt (tgt := 59) hx hb dX8_readClose_52 (by decide) (fun c_52 => ?_) (fun c_52 => ?_)
        · exact absurd c_52 (nI_pos (by omega))
        · skip
          refine lv_iconst (v := (nI 1)) hx hb dX8_readClose_55 (by decide) ?_
          refine ti (show (nI 1) = (bI true) from rfl) ?_
          refine lv_goto (tgt := 60) hx hb dX8_readClose_56 (by decide) ?_
          refine wr_call (wc := [(mo, .inr (6, [.int (nI rf), .ref a1, .int (nI ln), .ref a2, .ref a3, .ref a4, .int (nI ac), .ref a5, .ref a6, .ref mw, .ref mh, .int (nI r_14.2), .int (nI ou)]))]) (va_runV (As := [.int (bI true)]) (rest := []) ⟨hx, hb, hml, hown, hts⟩ (c_X8_done l g cy mo a1 a2 a3 a4 a5 a6 mw mh H.size rf ln ac r_14.2 ou true ) ⟨(cB 1 hts wd11_23 wd1_5 wd11_20 rfl rfl (by decide +kernel) ⟨Nat.le_of_ble_eq_true rfl, Nat.le_of_ble_eq_true rfl⟩), hts _ wd11_21, hts _ wd11_22⟩ (pv hK hP hD hS hA hX [0] rfl rfl 6 0 rfl rfl) rfl rfl hl.1 rfl (lv_room (Nat.le_of_ble_eq_true rfl)) dX8_readClose_60 ⟨Nat.zero_le _, Nat.zero_le _⟩) hP hD hS hA [0] rfl rfl (fun _ => (rfl : ([mo] : List Nat) = [mo])) ?_
          rintro _u9 H locs - hP hD hS
          have hP : va_P g vwCl [(mo, .inr (6, [.int (nI rf), .ref a1, .int (nI ln), .ref a2, .ref a3, .ref a4, .int (nI ac), .ref a5, .ref a6, .ref mw, .ref mh, .int (nI r_14.2), .int (nI (ou + (if true = true then 0 else 1)))])), aI cy a1 120 (mS tx), aI cy mw 144 (mS wy), aI cy mh 8 (mS w9), aI cy sa 248 (mS (clS σ k9 (decide (r_14.1 = 1))))] H := hP
          have hD : va_D A [(mo, .inr (6, [.int (nI rf), .ref a1, .int (nI ln), .ref a2, .ref a3, .ref a4, .int (nI ac), .ref a5, .ref a6, .ref mw, .ref mh, .int (nI r_14.2), .int (nI (ou + (if true = true then 0 else 1)))])), aI cy a1 120 (mS tx), aI cy mw 144 (mS wy), aI cy mh 8 (mS w9), aI cy sa 248 (mS (clS σ k9 (decide (r_14.1 = 1))))] := hD
          show W _ _ _ _ _ _ _ _ _ _ _ _ _ _ _ (F0 mX 63 ls [.int (bI true)])
          refine lv_if_eq (tgt := 70) hx hb dX8_readClose_63 (by decide) (fun c_63 => ?_) (fun c_63 => ?_)
          · have c_63 := (bI_eq0.mp c_63)
            exact absurd c_63 (by decide)
          · have c_63 := (bI_ne0.mp c_63)
            refine lv_iconst (v := (nI 1)) hx hb dX8_readClose_66 (by decide) ?_
            refine lv_goto (tgt := 71) hx hb dX8_readClose_67 (by decide) ?_
            exact wr_z (b := true) ((rdL tx ln lsX9 p 0 z9), (clS σ k9 (decide (r_14.1 = 1))), (ou + (if true = true then 0 else 1)), wy, w9) rfl (by dsimp only; rw [hrd.1, nn9_t c_22]) ⟨rfl, (fun _ => by dsimp only; rw [show (rdL tx ln lsX9 p 0 z9).2.2 = pf3 r_2.1 r_8.1 r_14.1 from hrd.2.2 c_22]; exact ⟨hd1.symm, by rw [if_neg hd2]; rfl⟩)⟩ (by dsimp only; rw [hrd.2.1]; exact hP) hS hx hb hr dX8_readClose_71 hlk
      · skip
        refine lv_iload hx hb dX8_readClose_38 (lv_at hl 0 rfl) ?_
        refine lv_iconst (v := (nI 1)) hx hb dX8_readClose_40 (by decide) ?_
        refine lv_icmp_ne (tgt := 48) hx hb dX8_readClose_41 (by decide) (fun c_41 => ?_) (fun c_41 => ?_)
        · have c_41 := (nc_ne9 (by omega) (by omega) c_41)
          refine lv_iconst (v := (nI 0)) hx hb dX8_readClose_48 (by decide) ?_
          exact jn49 _ (by simp [bI, nI_0, nI_o, c_41])
        · have c_41 := (nc_eq9 (by omega) (by omega) c_41)
          refine lv_iconst (v := (nI 1)) hx hb dX8_readClose_44 (by decide) ?_
          refine lv_goto (tgt := 49) hx hb dX8_readClose_45 (by decide) ?_
          exact jn49 _ (by simp [bI, nI_0, nI_o, c_41])
