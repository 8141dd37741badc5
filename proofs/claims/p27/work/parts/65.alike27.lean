/-! P27: alike. -/
set_option maxHeartbeats 4000000 in
set_option maxRecDepth 100000 in
theorem c_L_alike (l : Launch) (hfl : l.stackTraces = false) (g : va_G) (cy : Nat → ClassId) (x a tr s0 s1 : Nat → Nat) (pa : Nat → Nat → Nat) (x1 a1 t1 u1 v1 : Nat → Nat) (p1 : Nat → Nat → Nat) (sz : Nat) (bd : Nat) (q r : Sc) (σ : Nat → Nat) (Hh : Nat → Nat → Nat) (n : Nat) (K : Nat → Nat → Nat) (fl : Nat → Bool) (tx : Nat → Nat) (ln : Nat) (v : Nat) (hI : fI bd q σ Hh n K fl tx ln) (hJ : fI bd r σ Hh n K fl tx ln) (hv9 : v < 2 ^ 31) (hbd : bd + 5940 ≤ 100000) : Met l yL_alike (Cond.code yL_alike cL_alike 5 (some .boolean) :: wsL_law) ({ frames := 9, cells := 300, slots := 1800, locals := 194 } : Room) (va_Pc [.ref (x 0), .ref (x1 0), .int (nI v)] (pr2 g cy (fQ cy x a tr s0 s1 pa q σ n fl tx ln ++ fQ cy x1 a1 t1 u1 v1 p1 r σ n fl tx ln) sz)) (wr_Q (fun _ : Sc × Sc => some (.int (bI true))) (fun u => fI bd u.1 σ Hh n K fl tx ln ∧ fI bd u.2 σ Hh n K fl tx ln) (fun u => (fQ cy x a tr s0 s1 pa u.1 σ n fl tx ln ++ fQ cy x1 a1 t1 u1 v1 p1 u.2 σ n fl tx ln)) g (va_A (fQ cy x a tr s0 s1 pa q σ n fl tx ln ++ fQ cy x1 a1 t1 u1 v1 p1 r σ n fl tx ln) sz)) 300 1800 (va_A (fQ cy x a tr s0 s1 pa q σ n fl tx ln ++ fQ cy x1 a1 t1 u1 v1 p1 r σ n fl tx ln) sz) := by
  refine mt_p (cc := cL_alike) (maxL := 5) (ret := some .boolean) (by decide +kernel) (Nat.le_of_ble_eq_true rfl) ?_
  intro pX eX s mX below meth cX ls A hx hb hr hml hown hts hlk hsz hAe hA hP hD hK hX hY hl
  subst hsz
  rw [← hAe]
  clear hAe
  have hl : lv_has ls 5 [(0, .ref (x 0)), (1, .ref (x1 0)), (2, .int (nI v))] := hl
  have hS : va_S A s.heap s.heap [] := va_S.rf
  have hW := fI_wf hI
  have hn0 := hW.n0
  have hn1 := hW.n1
  have hh2 := hW.h2
  have hNN : NN = 4294967295 := rfl
  refine lv_aload_n hx hb dL_alike_0 rfl (lv_at hl 0 rfl) ?_
  refine lv_iload_n hx hb dL_alike_1 rfl (lv_at hl 2 rfl) ?_
  refine lv_i2l (v := (nI v).toInt64) hx hb dL_alike_2 rfl ?_
  refine lv_iconst (v := (nI 1)) hx hb dL_alike_3 (by decide) ?_
  refine lv_iload_n hx hb dL_alike_4 rfl (lv_at hl 2 rfl) ?_
  refine lv_bipush (v := (nI 30)) hx hb dL_alike_5 (by decide) ?_
  refine lv_irem hx hb dL_alike_7 (nI_ne0 (by omega) (by omega)) ?_
  refine ti (pk_rem (a := v) (d := 30) (by omega) (by omega) (by omega)) ?_
  refine lv_iadd hx hb dL_alike_8 ?_
  refine ti (nI_add 1 (v % 30)) ?_
  obtain ⟨hP, hD⟩ := sw_PD (L := []) (M := (fQ cy x a tr s0 s1 pa q σ n fl tx ln)) (T := (fQ cy x1 a1 t1 u1 v1 p1 r σ n fl tx ln)) hP hD
  refine wr_callS (pre := (fQ cy x1 a1 t1 u1 v1 p1 r σ n fl tx ln)) (wc := fQ cy x a tr s0 s1 pa q σ n fl tx ln) (vx_runSW (hh := [(0, 6, 7, 16)]) (As := [.ref (x 0), .long ((nI v).toInt64), .int (nI (1 + (v % 30)))]) (rest := []) ⟨hx, hb, hml, hown, hts⟩ (c_L_doSimulate l hfl g cy x a tr s0 s1 pa s.heap.size bd q σ Hh n K fl tx ln ((nI v).toInt64) (nI (1 + (v % 30))) hI (by omega)) (vx_cwSW 3 hts (hl_in wd28_0 wd5_14 wd27_22 wd27_23) rfl rfl rfl (by decide +kernel) ⟨Nat.le_of_ble_eq_true rfl, Nat.le_of_ble_eq_true rfl⟩) (ps2 (ws := (fQ cy x1 a1 t1 u1 v1 p1 r σ n fl tx ln) ++ fQ cy x a tr s0 s1 pa q σ n fl tx ln) hK hP hD hS hA hX hY _ nd_suffix at_suffix) rfl rfl hl.1 rfl (lv_room (Nat.le_of_ble_eq_true rfl)) dL_alike_9 ⟨by show _ ≤ 300; omega, by show _ ≤ 1800; omega⟩) hP hD hS hA (fun _ => fQ_ad) (fun q H locs hI hP hD hS => ?_)
  obtain ⟨hP, hD⟩ := sw_PD (L := []) (M := (fQ cy x1 a1 t1 u1 v1 p1 r σ n fl tx ln)) (T := (fQ cy x a tr s0 s1 pa q σ n fl tx ln)) hP hD
  have hP : va_P g vwCl (fQ cy x a tr s0 s1 pa q σ n fl tx ln ++ fQ cy x1 a1 t1 u1 v1 p1 r σ n fl tx ln) H := hP
  have hD : va_D A (fQ cy x a tr s0 s1 pa q σ n fl tx ln ++ fQ cy x1 a1 t1 u1 v1 p1 r σ n fl tx ln) := hD
  show W _ _ _ _ _ _ _ _ _ _ _ _ _ _ _ (F0 mX 12 ls [.int (an (fSim (nI (1 + (v % 30)))) (simA σ (siS ((nI v).toInt64) σ (nI (1 + (v % 30))).toNatClampNeg)))])
  refine lv_aload_n hx hb dL_alike_12 rfl (lv_at hl 1 rfl) ?_
  refine lv_iload_n hx hb dL_alike_13 rfl (lv_at hl 2 rfl) ?_
  refine lv_i2l (v := (nI v).toInt64) hx hb dL_alike_14 rfl ?_
  refine lv_iconst (v := (nI 1)) hx hb dL_alike_15 (by decide) ?_
  refine lv_iload_n hx hb dL_alike_16 rfl (lv_at hl 2 rfl) ?_
  refine lv_bipush (v := (nI 30)) hx hb dL_alike_17 (by decide) ?_
  refine lv_irem hx hb dL_alike_19 (nI_ne0 (by omega) (by omega)) ?_
  refine ti (pk_rem (a := v) (d := 30) (by omega) (by omega) (by omega)) ?_
  refine lv_iadd hx hb dL_alike_20 ?_
  refine ti (nI_add 1 (v % 30)) ?_
  refine wr_callS (pre := (fQ cy x a tr s0 s1 pa q σ n fl tx ln)) (wc := fQ cy x1 a1 t1 u1 v1 p1 r σ n fl tx ln) (vx_runSW (hh := [(0, 6, 7, 16)]) (As := [.ref (x1 0), .long ((nI v).toInt64), .int (nI (1 + (v % 30)))]) (rest := [.int (an (fSim (nI (1 + (v % 30)))) (simA σ (siS ((nI v).toInt64) σ (nI (1 + (v % 30))).toNatClampNeg)))]) ⟨hx, hb, hml, hown, hts⟩ (c_L_doSimulate l hfl g cy x1 a1 t1 u1 v1 p1 H.size bd r σ Hh n K fl tx ln ((nI v).toInt64) (nI (1 + (v % 30))) hJ (by omega)) (vx_cwSW 3 hts (hl_in wd28_0 wd5_14 wd27_22 wd27_23) rfl rfl rfl (by decide +kernel) ⟨Nat.le_of_ble_eq_true rfl, Nat.le_of_ble_eq_true rfl⟩) (ps2 (ws := (fQ cy x a tr s0 s1 pa q σ n fl tx ln) ++ fQ cy x1 a1 t1 u1 v1 p1 r σ n fl tx ln) hK hP hD hS hA hX hY _ nd_suffix at_suffix) rfl rfl hl.1 rfl (lv_room (Nat.le_of_ble_eq_true rfl)) dL_alike_21 ⟨by show _ ≤ 300; omega, by show _ ≤ 1800; omega⟩) hP hD hS hA (fun _ => fQ_ad) (fun r H locs hJ hP hD hS => ?_)
  have hP : va_P g vwCl (fQ cy x a tr s0 s1 pa q σ n fl tx ln ++ fQ cy x1 a1 t1 u1 v1 p1 r σ n fl tx ln) H := hP
  have hD : va_D A (fQ cy x a tr s0 s1 pa q σ n fl tx ln ++ fQ cy x1 a1 t1 u1 v1 p1 r σ n fl tx ln) := hD
  show W _ _ _ _ _ _ _ _ _ _ _ _ _ _ _ (F0 mX 24 ls [.int (an (fSim (nI (1 + (v % 30)))) (simA σ (siS ((nI v).toInt64) σ (nI (1 + (v % 30))).toNatClampNeg))), .int (an (fSim (nI (1 + (v % 30)))) (simA σ (siS ((nI v).toInt64) σ (nI (1 + (v % 30))).toNatClampNeg)))])
  refine lv_icmp_ne (tgt := 42) hx hb dL_alike_24 (by decide) (fun c_24 => absurd rfl c_24) (fun _ => ?_)
  refine lv_aload_n hx hb dL_alike_27 rfl (lv_at hl 0 rfl) ?_
  obtain ⟨hP, hD⟩ := sw_PD (L := []) (M := (fQ cy x a tr s0 s1 pa q σ n fl tx ln)) (T := (fQ cy x1 a1 t1 u1 v1 p1 r σ n fl tx ln)) hP hD
  refine wr_callS (pre := (fQ cy x1 a1 t1 u1 v1 p1 r σ n fl tx ln)) (wc := fQ cy x a tr s0 s1 pa q σ n fl tx ln) (va_runV (As := []) (rest := []) ⟨hx, hb, hml, hown, hts⟩ (c_X7_watch l g cy x a tr s0 s1 pa H.size bd q σ Hh n K fl tx ln  hI) ⟨cB 0 hts wd29_2 wd1_2 wd28_23 rfl rfl (by decide +kernel) ⟨Nat.le_of_ble_eq_true rfl, Nat.le_of_ble_eq_true rfl⟩, hts _ wd29_0, hts _ wd29_1⟩ (pvS (pre := (fQ cy x1 a1 t1 u1 v1 p1 r σ n fl tx ln)) (wc := fQ cy x a tr s0 s1 pa q σ n fl tx ln) hK hP hD hS hA hX 5 rfl rfl) rfl rfl hl.1 rfl (lv_room (Nat.le_of_ble_eq_true rfl)) dL_alike_28 ⟨by show _ ≤ 300; omega, by show _ ≤ 1800; omega⟩) hP hD hS hA (fun _ => fQ_ad) (fun q H locs hI hP hD hS => ?_)
  obtain ⟨hP, hD⟩ := sw_PD (L := []) (M := (fQ cy x1 a1 t1 u1 v1 p1 r σ n fl tx ln)) (T := (fQ cy x a tr s0 s1 pa q σ n fl tx ln)) hP hD
  have hP : va_P g vwCl (fQ cy x a tr s0 s1 pa q σ n fl tx ln ++ fQ cy x1 a1 t1 u1 v1 p1 r σ n fl tx ln) H := hP
  have hD : va_D A (fQ cy x a tr s0 s1 pa q σ n fl tx ln ++ fQ cy x1 a1 t1 u1 v1 p1 r σ n fl tx ln) := hD
  show W _ _ _ _ _ _ _ _ _ _ _ _ _ _ _ (F0 mX 31 ls [.int (nI (wat σ))])
  refine lv_aload_n hx hb dL_alike_31 rfl (lv_at hl 1 rfl) ?_
  refine wr_callS (pre := (fQ cy x a tr s0 s1 pa q σ n fl tx ln)) (wc := fQ cy x1 a1 t1 u1 v1 p1 r σ n fl tx ln) (va_runV (As := []) (rest := [.int (nI (wat σ))]) ⟨hx, hb, hml, hown, hts⟩ (c_X7_watch l g cy x1 a1 t1 u1 v1 p1 H.size bd r σ Hh n K fl tx ln  hJ) ⟨cB 0 hts wd29_2 wd1_2 wd28_23 rfl rfl (by decide +kernel) ⟨Nat.le_of_ble_eq_true rfl, Nat.le_of_ble_eq_true rfl⟩, hts _ wd29_0, hts _ wd29_1⟩ (pvS (pre := (fQ cy x a tr s0 s1 pa q σ n fl tx ln)) (wc := fQ cy x1 a1 t1 u1 v1 p1 r σ n fl tx ln) hK hP hD hS hA hX 5 rfl rfl) rfl rfl hl.1 rfl (lv_room (Nat.le_of_ble_eq_true rfl)) dL_alike_32 ⟨by show _ ≤ 300; omega, by show _ ≤ 1800; omega⟩) hP hD hS hA (fun _ => fQ_ad) (fun r H locs hJ hP hD hS => ?_)
  have hP : va_P g vwCl (fQ cy x a tr s0 s1 pa q σ n fl tx ln ++ fQ cy x1 a1 t1 u1 v1 p1 r σ n fl tx ln) H := hP
  have hD : va_D A (fQ cy x a tr s0 s1 pa q σ n fl tx ln ++ fQ cy x1 a1 t1 u1 v1 p1 r σ n fl tx ln) := hD
  show W _ _ _ _ _ _ _ _ _ _ _ _ _ _ _ (F0 mX 35 ls [.int (nI (wat σ)), .int (nI (wat σ))])
  refine lv_icmp_ne (tgt := 42) hx hb dL_alike_35 (by decide) (fun c_35 => absurd rfl c_35) (fun _ => ?_)
  refine lv_iconst (v := (nI 1)) hx hb dL_alike_38 (by decide) ?_
  refine lv_goto (tgt := 43) hx hb dL_alike_39 (by decide) ?_
  refine lv_istore_n (lv' := [(3, .int (nI 1)), (0, .ref (x 0)), (1, .ref (x1 0)), (2, .int (nI v))]) hx hb dL_alike_43 rfl hl (by decide) rfl (fun ls hl => ?_)
  refine lv_iconst (v := (nI 0)) hx hb dL_alike_44 (by decide) ?_
  refine lv_istore (lv' := [(4, .int (nI 0)), (3, .int (nI 1)), (0, .ref (x 0)), (1, .ref (x1 0)), (2, .int (nI v))]) hx hb dL_alike_45 hl (by decide) rfl (fun ls hl => ?_)
  refine W.widen (k := 2 + 10 * 0) (n := 6 * (2 + 10 * 0)) (by omega) (by omega) ?_
  refine lp_ac (fc := fun x9 => 2 + 10 * x9.1) (fs := fun x9 => 6 * (2 + 10 * x9.1)) (σ := (Nat) × Sc × Sc) (fun x9 H9 locs9 ls9 => va_P g vwCl (fQ cy x a tr s0 s1 pa x9.2.1 σ n fl tx ln ++ fQ cy x1 a1 t1 u1 v1 p1 x9.2.2 σ n fl tx ln) H9 ∧ va_D A (fQ cy x a tr s0 s1 pa x9.2.1 σ n fl tx ln ++ fQ cy x1 a1 t1 u1 v1 p1 x9.2.2 σ n fl tx ln) ∧ va_S A s.heap H9 locs9 ∧ fI bd x9.2.1 σ Hh n K fl tx ln ∧ fI bd x9.2.2 σ Hh n K fl tx ln ∧ lv_has ls9 5 [(0, .ref (x 0)), (1, .ref (x1 0)), (2, .int (nI v)), (3, .int (nI 1)), (4, .int (nI x9.1))] ∧ (x9.1 ≤ 20)) (fun x9 => 20 - x9.1) (0, q, r) ⟨hP, hD, hS, hI, hJ, lv_sub hl [2, 3, 4, 1, 0] rfl, (Nat.zero_le _)⟩ ?_
  rintro ⟨k, q, r⟩ H locs ls ⟨hP, hD, hS, hI, hJ, hl, hk⟩ ih47
  dsimp only at hP hD hl hI hJ hk ih47 ⊢
  refine lv_iload hx hb dL_alike_47 (lv_at hl 4 rfl) ?_
  refine lv_bipush (v := (nI 20)) hx hb dL_alike_49 (by decide) ?_
  refine lv_icmp_ge (tgt := 195) hx hb dL_alike_51 (by decide) (fun c_51 => ?_) (fun c_51 => ?_)
  · have c_51 := (nc_le (by omega) (by omega) c_51)
    refine lv_iload_n hx hb dL_alike_195 rfl (lv_at hl 3 rfl) ?_
    exact W.widen (by omega) (by omega) (wr_z (b := true) (q, r) rfl rfl ⟨hI, hJ⟩ hP hS hx hb hr dL_alike_196 hlk)
  · have c_51 := (nc_nle (by omega) (by omega) c_51)
    refine lv_iload_n hx hb dL_alike_54 rfl (lv_at hl 3 rfl) ?_
    refine lv_if_eq (tgt := 195) hx hb dL_alike_55 (by decide) (fun c9 => absurd c9 (by decide)) (fun _ => ?_)
    refine lv_aload_n hx hb dL_alike_58 rfl (lv_at hl 0 rfl) ?_
    refine lv_iconst (v := (nI 2)) hx hb dL_alike_59 (by decide) ?_
    refine lv_iload hx hb dL_alike_60 (lv_at hl 4 rfl) ?_
    refine lv_iconst (v := (nI 0)) hx hb dL_alike_62 (by decide) ?_
    refine lv_iconst (v := (nI 0)) hx hb dL_alike_63 (by decide) ?_
    obtain ⟨hP, hD⟩ := sw_PD (L := []) (M := (fQ cy x a tr s0 s1 pa q σ n fl tx ln)) (T := (fQ cy x1 a1 t1 u1 v1 p1 r σ n fl tx ln)) hP hD
    refine wr_callS (pre := (fQ cy x1 a1 t1 u1 v1 p1 r σ n fl tx ln)) (wc := fQ cy x a tr s0 s1 pa q σ n fl tx ln) (va_runS (As := [.ref (x 0), .int (nI 2), .int (nI k), .int (nI 0), .int (nI 0)]) (rest := []) ⟨hx, hb, hml, hown, hts⟩ (c_L_call_2 l hfl g cy x a tr s0 s1 pa H.size bd q σ Hh n K fl tx ln (nI k) (nI 0) (nI 0) hI ) ⟨(cB 5 hts wd9_11 wd5_14 wd9_9 rfl rfl (by decide +kernel) ⟨Nat.le_of_ble_eq_true rfl, Nat.le_of_ble_eq_true rfl⟩), hts _ wd9_10⟩ (ps2 (ws := (fQ cy x1 a1 t1 u1 v1 p1 r σ n fl tx ln) ++ fQ cy x a tr s0 s1 pa q σ n fl tx ln) hK hP hD hS hA hX hY _ nd_suffix at_suffix) rfl rfl hl.1 rfl (lv_room (Nat.le_of_ble_eq_true rfl)) dL_alike_64 ⟨by show _ ≤ 300; omega, by show _ ≤ 1800; omega⟩) hP hD hS hA (fun _ => fQ_ad) (fun q H locs hI hP hD hS => ?_)
    obtain ⟨hP, hD⟩ := sw_PD (L := []) (M := (fQ cy x1 a1 t1 u1 v1 p1 r σ n fl tx ln)) (T := (fQ cy x a tr s0 s1 pa q σ n fl tx ln)) hP hD
    have hP : va_P g vwCl (fQ cy x a tr s0 s1 pa q σ n fl tx ln ++ fQ cy x1 a1 t1 u1 v1 p1 r σ n fl tx ln) H := hP
    have hD : va_D A (fQ cy x a tr s0 s1 pa q σ n fl tx ln ++ fQ cy x1 a1 t1 u1 v1 p1 r σ n fl tx ln) := hD
    show W _ _ _ _ _ _ _ _ _ _ _ _ _ _ _ (F0 mX 67 ls [.int (an (fAbo (nI k)) (nI (nbd σ (nI k).toNatClampNeg)))])
    refine lv_aload_n hx hb dL_alike_67 rfl (lv_at hl 1 rfl) ?_
    refine lv_iconst (v := (nI 2)) hx hb dL_alike_68 (by decide) ?_
    refine lv_iload hx hb dL_alike_69 (lv_at hl 4 rfl) ?_
    refine lv_iconst (v := (nI 0)) hx hb dL_alike_71 (by decide) ?_
    refine lv_iconst (v := (nI 0)) hx hb dL_alike_72 (by decide) ?_
    refine wr_callS (pre := (fQ cy x a tr s0 s1 pa q σ n fl tx ln)) (wc := fQ cy x1 a1 t1 u1 v1 p1 r σ n fl tx ln) (va_runS (As := [.ref (x1 0), .int (nI 2), .int (nI k), .int (nI 0), .int (nI 0)]) (rest := [.int (an (fAbo (nI k)) (nI (nbd σ (nI k).toNatClampNeg)))]) ⟨hx, hb, hml, hown, hts⟩ (c_L_call_2 l hfl g cy x1 a1 t1 u1 v1 p1 H.size bd r σ Hh n K fl tx ln (nI k) (nI 0) (nI 0) hJ ) ⟨(cB 5 hts wd9_11 wd5_14 wd9_9 rfl rfl (by decide +kernel) ⟨Nat.le_of_ble_eq_true rfl, Nat.le_of_ble_eq_true rfl⟩), hts _ wd9_10⟩ (ps2 (ws := (fQ cy x a tr s0 s1 pa q σ n fl tx ln) ++ fQ cy x1 a1 t1 u1 v1 p1 r σ n fl tx ln) hK hP hD hS hA hX hY _ nd_suffix at_suffix) rfl rfl hl.1 rfl (lv_room (Nat.le_of_ble_eq_true rfl)) dL_alike_73 ⟨by show _ ≤ 300; omega, by show _ ≤ 1800; omega⟩) hP hD hS hA (fun _ => fQ_ad) (fun r H locs hJ hP hD hS => ?_)
    have hP : va_P g vwCl (fQ cy x a tr s0 s1 pa q σ n fl tx ln ++ fQ cy x1 a1 t1 u1 v1 p1 r σ n fl tx ln) H := hP
    have hD : va_D A (fQ cy x a tr s0 s1 pa q σ n fl tx ln ++ fQ cy x1 a1 t1 u1 v1 p1 r σ n fl tx ln) := hD
    show W _ _ _ _ _ _ _ _ _ _ _ _ _ _ _ (F0 mX 76 ls [.int (an (fAbo (nI k)) (nI (nbd σ (nI k).toNatClampNeg))), .int (an (fAbo (nI k)) (nI (nbd σ (nI k).toNatClampNeg)))])
    refine lv_icmp_ne (tgt := 187) hx hb dL_alike_76 (by decide) (fun c_76 => absurd rfl c_76) (fun _ => ?_)
    refine lv_aload_n hx hb dL_alike_79 rfl (lv_at hl 0 rfl) ?_
    refine lv_iconst (v := (nI 3)) hx hb dL_alike_80 (by decide) ?_
    refine lv_iload hx hb dL_alike_81 (lv_at hl 4 rfl) ?_
    refine lv_iload_n hx hb dL_alike_83 rfl (lv_at hl 2 rfl) ?_
    refine lv_bipush (v := (nI 11)) hx hb dL_alike_84 (by decide) ?_
    refine lv_irem hx hb dL_alike_86 (nI_ne0 (by omega) (by omega)) ?_
    refine ti (pk_rem (a := v) (d := 11) (by omega) (by omega) (by omega)) ?_
    refine lv_iconst (v := (nI 0)) hx hb dL_alike_87 (by decide) ?_
    obtain ⟨hP, hD⟩ := sw_PD (L := []) (M := (fQ cy x a tr s0 s1 pa q σ n fl tx ln)) (T := (fQ cy x1 a1 t1 u1 v1 p1 r σ n fl tx ln)) hP hD
    refine wr_callS (pre := (fQ cy x1 a1 t1 u1 v1 p1 r σ n fl tx ln)) (wc := fQ cy x a tr s0 s1 pa q σ n fl tx ln) (va_runS (As := [.ref (x 0), .int (nI 3), .int (nI k), .int (nI (v % 11)), .int (nI 0)]) (rest := []) ⟨hx, hb, hml, hown, hts⟩ (c_L_call_3 l hfl g cy x a tr s0 s1 pa H.size bd q σ Hh n K fl tx ln (nI k) (nI (v % 11)) (nI 0) hI ) ⟨(cB 5 hts wd9_11 wd5_14 wd9_9 rfl rfl (by decide +kernel) ⟨Nat.le_of_ble_eq_true rfl, Nat.le_of_ble_eq_true rfl⟩), hts _ wd9_10⟩ (ps2 (ws := (fQ cy x1 a1 t1 u1 v1 p1 r σ n fl tx ln) ++ fQ cy x a tr s0 s1 pa q σ n fl tx ln) hK hP hD hS hA hX hY _ nd_suffix at_suffix) rfl rfl hl.1 rfl (lv_room (Nat.le_of_ble_eq_true rfl)) dL_alike_88 ⟨by show _ ≤ 300; omega, by show _ ≤ 1800; omega⟩) hP hD hS hA (fun _ => fQ_ad) (fun q H locs hI hP hD hS => ?_)
    obtain ⟨hP, hD⟩ := sw_PD (L := []) (M := (fQ cy x1 a1 t1 u1 v1 p1 r σ n fl tx ln)) (T := (fQ cy x a tr s0 s1 pa q σ n fl tx ln)) hP hD
    have hP : va_P g vwCl (fQ cy x a tr s0 s1 pa q σ n fl tx ln ++ fQ cy x1 a1 t1 u1 v1 p1 r σ n fl tx ln) H := hP
    have hD : va_D A (fQ cy x a tr s0 s1 pa q σ n fl tx ln ++ fQ cy x1 a1 t1 u1 v1 p1 r σ n fl tx ln) := hD
    show W _ _ _ _ _ _ _ _ _ _ _ _ _ _ _ (F0 mX 91 ls [.int (an (fDog σ (nI k) (nI (v % 11))) (nI (ndg σ (nI k).toNatClampNeg (nI (v % 11)).toNatClampNeg)))])
    refine lv_aload_n hx hb dL_alike_91 rfl (lv_at hl 1 rfl) ?_
    refine lv_iconst (v := (nI 3)) hx hb dL_alike_92 (by decide) ?_
    refine lv_iload hx hb dL_alike_93 (lv_at hl 4 rfl) ?_
    refine lv_iload_n hx hb dL_alike_95 rfl (lv_at hl 2 rfl) ?_
    refine lv_bipush (v := (nI 11)) hx hb dL_alike_96 (by decide) ?_
    refine lv_irem hx hb dL_alike_98 (nI_ne0 (by omega) (by omega)) ?_
    refine ti (pk_rem (a := v) (d := 11) (by omega) (by omega) (by omega)) ?_
    refine lv_iconst (v := (nI 0)) hx hb dL_alike_99 (by decide) ?_
    refine wr_callS (pre := (fQ cy x a tr s0 s1 pa q σ n fl tx ln)) (wc := fQ cy x1 a1 t1 u1 v1 p1 r σ n fl tx ln) (va_runS (As := [.ref (x1 0), .int (nI 3), .int (nI k), .int (nI (v % 11)), .int (nI 0)]) (rest := [.int (an (fDog σ (nI k) (nI (v % 11))) (nI (ndg σ (nI k).toNatClampNeg (nI (v % 11)).toNatClampNeg)))]) ⟨hx, hb, hml, hown, hts⟩ (c_L_call_3 l hfl g cy x1 a1 t1 u1 v1 p1 H.size bd r σ Hh n K fl tx ln (nI k) (nI (v % 11)) (nI 0) hJ ) ⟨(cB 5 hts wd9_11 wd5_14 wd9_9 rfl rfl (by decide +kernel) ⟨Nat.le_of_ble_eq_true rfl, Nat.le_of_ble_eq_true rfl⟩), hts _ wd9_10⟩ (ps2 (ws := (fQ cy x a tr s0 s1 pa q σ n fl tx ln) ++ fQ cy x1 a1 t1 u1 v1 p1 r σ n fl tx ln) hK hP hD hS hA hX hY _ nd_suffix at_suffix) rfl rfl hl.1 rfl (lv_room (Nat.le_of_ble_eq_true rfl)) dL_alike_100 ⟨by show _ ≤ 300; omega, by show _ ≤ 1800; omega⟩) hP hD hS hA (fun _ => fQ_ad) (fun r H locs hJ hP hD hS => ?_)
    have hP : va_P g vwCl (fQ cy x a tr s0 s1 pa q σ n fl tx ln ++ fQ cy x1 a1 t1 u1 v1 p1 r σ n fl tx ln) H := hP
    have hD : va_D A (fQ cy x a tr s0 s1 pa q σ n fl tx ln ++ fQ cy x1 a1 t1 u1 v1 p1 r σ n fl tx ln) := hD
    show W _ _ _ _ _ _ _ _ _ _ _ _ _ _ _ (F0 mX 103 ls [.int (an (fDog σ (nI k) (nI (v % 11))) (nI (ndg σ (nI k).toNatClampNeg (nI (v % 11)).toNatClampNeg))), .int (an (fDog σ (nI k) (nI (v % 11))) (nI (ndg σ (nI k).toNatClampNeg (nI (v % 11)).toNatClampNeg)))])
    refine lv_icmp_ne (tgt := 187) hx hb dL_alike_103 (by decide) (fun c_103 => absurd rfl c_103) (fun _ => ?_)
    refine lv_aload_n hx hb dL_alike_106 rfl (lv_at hl 0 rfl) ?_
    refine lv_iconst (v := (nI 4)) hx hb dL_alike_107 (by decide) ?_
    refine lv_iload hx hb dL_alike_108 (lv_at hl 4 rfl) ?_
    refine lv_iload_n hx hb dL_alike_110 rfl (lv_at hl 2 rfl) ?_
    refine lv_bipush (v := (nI 9)) hx hb dL_alike_111 (by decide) ?_
    refine lv_irem hx hb dL_alike_113 (nI_ne0 (by omega) (by omega)) ?_
    refine ti (pk_rem (a := v) (d := 9) (by omega) (by omega) (by omega)) ?_
    refine lv_iconst (v := (nI 0)) hx hb dL_alike_114 (by decide) ?_
    obtain ⟨hP, hD⟩ := sw_PD (L := []) (M := (fQ cy x a tr s0 s1 pa q σ n fl tx ln)) (T := (fQ cy x1 a1 t1 u1 v1 p1 r σ n fl tx ln)) hP hD
    refine wr_callS (pre := (fQ cy x1 a1 t1 u1 v1 p1 r σ n fl tx ln)) (wc := fQ cy x a tr s0 s1 pa q σ n fl tx ln) (va_runS (As := [.ref (x 0), .int (nI 4), .int (nI k), .int (nI (v % 9)), .int (nI 0)]) (rest := []) ⟨hx, hb, hml, hown, hts⟩ (c_L_call_4 l hfl g cy x a tr s0 s1 pa H.size bd q σ Hh n K fl tx ln (nI k) (nI (v % 9)) (nI 0) hI ) ⟨(cB 5 hts wd9_11 wd5_14 wd9_9 rfl rfl (by decide +kernel) ⟨Nat.le_of_ble_eq_true rfl, Nat.le_of_ble_eq_true rfl⟩), hts _ wd9_10⟩ (ps2 (ws := (fQ cy x1 a1 t1 u1 v1 p1 r σ n fl tx ln) ++ fQ cy x a tr s0 s1 pa q σ n fl tx ln) hK hP hD hS hA hX hY _ nd_suffix at_suffix) rfl rfl hl.1 rfl (lv_room (Nat.le_of_ble_eq_true rfl)) dL_alike_115 ⟨by show _ ≤ 300; omega, by show _ ≤ 1800; omega⟩) hP hD hS hA (fun _ => fQ_ad) (fun q H locs hI hP hD hS => ?_)
    obtain ⟨hP, hD⟩ := sw_PD (L := []) (M := (fQ cy x1 a1 t1 u1 v1 p1 r σ n fl tx ln)) (T := (fQ cy x a tr s0 s1 pa q σ n fl tx ln)) hP hD
    have hP : va_P g vwCl (fQ cy x a tr s0 s1 pa q σ n fl tx ln ++ fQ cy x1 a1 t1 u1 v1 p1 r σ n fl tx ln) H := hP
    have hD : va_D A (fQ cy x a tr s0 s1 pa q σ n fl tx ln ++ fQ cy x1 a1 t1 u1 v1 p1 r σ n fl tx ln) := hD
    show W _ _ _ _ _ _ _ _ _ _ _ _ _ _ _ (F0 mX 118 ls [.int (an (fSig σ (nI k) (nI (v % 9))) (nI (nsg σ (nI k).toNatClampNeg (nI (v % 9)).toNatClampNeg)))])
    refine lv_aload_n hx hb dL_alike_118 rfl (lv_at hl 1 rfl) ?_
    refine lv_iconst (v := (nI 4)) hx hb dL_alike_119 (by decide) ?_
    refine lv_iload hx hb dL_alike_120 (lv_at hl 4 rfl) ?_
    refine lv_iload_n hx hb dL_alike_122 rfl (lv_at hl 2 rfl) ?_
    refine lv_bipush (v := (nI 9)) hx hb dL_alike_123 (by decide) ?_
    refine lv_irem hx hb dL_alike_125 (nI_ne0 (by omega) (by omega)) ?_
    refine ti (pk_rem (a := v) (d := 9) (by omega) (by omega) (by omega)) ?_
    refine lv_iconst (v := (nI 0)) hx hb dL_alike_126 (by decide) ?_
    refine wr_callS (pre := (fQ cy x a tr s0 s1 pa q σ n fl tx ln)) (wc := fQ cy x1 a1 t1 u1 v1 p1 r σ n fl tx ln) (va_runS (As := [.ref (x1 0), .int (nI 4), .int (nI k), .int (nI (v % 9)), .int (nI 0)]) (rest := [.int (an (fSig σ (nI k) (nI (v % 9))) (nI (nsg σ (nI k).toNatClampNeg (nI (v % 9)).toNatClampNeg)))]) ⟨hx, hb, hml, hown, hts⟩ (c_L_call_4 l hfl g cy x1 a1 t1 u1 v1 p1 H.size bd r σ Hh n K fl tx ln (nI k) (nI (v % 9)) (nI 0) hJ ) ⟨(cB 5 hts wd9_11 wd5_14 wd9_9 rfl rfl (by decide +kernel) ⟨Nat.le_of_ble_eq_true rfl, Nat.le_of_ble_eq_true rfl⟩), hts _ wd9_10⟩ (ps2 (ws := (fQ cy x a tr s0 s1 pa q σ n fl tx ln) ++ fQ cy x1 a1 t1 u1 v1 p1 r σ n fl tx ln) hK hP hD hS hA hX hY _ nd_suffix at_suffix) rfl rfl hl.1 rfl (lv_room (Nat.le_of_ble_eq_true rfl)) dL_alike_127 ⟨by show _ ≤ 300; omega, by show _ ≤ 1800; omega⟩) hP hD hS hA (fun _ => fQ_ad) (fun r H locs hJ hP hD hS => ?_)
    have hP : va_P g vwCl (fQ cy x a tr s0 s1 pa q σ n fl tx ln ++ fQ cy x1 a1 t1 u1 v1 p1 r σ n fl tx ln) H := hP
    have hD : va_D A (fQ cy x a tr s0 s1 pa q σ n fl tx ln ++ fQ cy x1 a1 t1 u1 v1 p1 r σ n fl tx ln) := hD
    show W _ _ _ _ _ _ _ _ _ _ _ _ _ _ _ (F0 mX 130 ls [.int (an (fSig σ (nI k) (nI (v % 9))) (nI (nsg σ (nI k).toNatClampNeg (nI (v % 9)).toNatClampNeg))), .int (an (fSig σ (nI k) (nI (v % 9))) (nI (nsg σ (nI k).toNatClampNeg (nI (v % 9)).toNatClampNeg)))])
    refine lv_icmp_ne (tgt := 187) hx hb dL_alike_130 (by decide) (fun c_130 => absurd rfl c_130) (fun _ => ?_)
    refine lv_aload_n hx hb dL_alike_133 rfl (lv_at hl 0 rfl) ?_
    refine lv_iconst (v := (nI 5)) hx hb dL_alike_134 (by decide) ?_
    refine lv_iload hx hb dL_alike_135 (lv_at hl 4 rfl) ?_
    refine lv_iconst (v := (nI 0)) hx hb dL_alike_137 (by decide) ?_
    refine lv_iconst (v := (nI 0)) hx hb dL_alike_138 (by decide) ?_
    obtain ⟨hP, hD⟩ := sw_PD (L := []) (M := (fQ cy x a tr s0 s1 pa q σ n fl tx ln)) (T := (fQ cy x1 a1 t1 u1 v1 p1 r σ n fl tx ln)) hP hD
    refine wr_callS (pre := (fQ cy x1 a1 t1 u1 v1 p1 r σ n fl tx ln)) (wc := fQ cy x a tr s0 s1 pa q σ n fl tx ln) (va_runS (As := [.ref (x 0), .int (nI 5), .int (nI k), .int (nI 0), .int (nI 0)]) (rest := []) ⟨hx, hb, hml, hown, hts⟩ (c_L_call_5 l hfl g cy x a tr s0 s1 pa H.size bd q σ Hh n K fl tx ln (nI k) (nI 0) (nI 0) hI ) ⟨(cB 5 hts wd9_11 wd5_14 wd9_9 rfl rfl (by decide +kernel) ⟨Nat.le_of_ble_eq_true rfl, Nat.le_of_ble_eq_true rfl⟩), hts _ wd9_10⟩ (ps2 (ws := (fQ cy x1 a1 t1 u1 v1 p1 r σ n fl tx ln) ++ fQ cy x a tr s0 s1 pa q σ n fl tx ln) hK hP hD hS hA hX hY _ nd_suffix at_suffix) rfl rfl hl.1 rfl (lv_room (Nat.le_of_ble_eq_true rfl)) dL_alike_139 ⟨by show _ ≤ 300; omega, by show _ ≤ 1800; omega⟩) hP hD hS hA (fun _ => fQ_ad) (fun q H locs hI hP hD hS => ?_)
    obtain ⟨hP, hD⟩ := sw_PD (L := []) (M := (fQ cy x1 a1 t1 u1 v1 p1 r σ n fl tx ln)) (T := (fQ cy x a tr s0 s1 pa q σ n fl tx ln)) hP hD
    have hP : va_P g vwCl (fQ cy x a tr s0 s1 pa q σ n fl tx ln ++ fQ cy x1 a1 t1 u1 v1 p1 r σ n fl tx ln) H := hP
    have hD : va_D A (fQ cy x a tr s0 s1 pa q σ n fl tx ln ++ fQ cy x1 a1 t1 u1 v1 p1 r σ n fl tx ln) := hD
    show W _ _ _ _ _ _ _ _ _ _ _ _ _ _ _ (F0 mX 142 ls [.int (an (fPur (nI k)) (nI (σ (8 + (nI k).toNatClampNeg))))])
    refine lv_aload_n hx hb dL_alike_142 rfl (lv_at hl 1 rfl) ?_
    refine lv_iconst (v := (nI 5)) hx hb dL_alike_143 (by decide) ?_
    refine lv_iload hx hb dL_alike_144 (lv_at hl 4 rfl) ?_
    refine lv_iconst (v := (nI 0)) hx hb dL_alike_146 (by decide) ?_
    refine lv_iconst (v := (nI 0)) hx hb dL_alike_147 (by decide) ?_
    refine wr_callS (pre := (fQ cy x a tr s0 s1 pa q σ n fl tx ln)) (wc := fQ cy x1 a1 t1 u1 v1 p1 r σ n fl tx ln) (va_runS (As := [.ref (x1 0), .int (nI 5), .int (nI k), .int (nI 0), .int (nI 0)]) (rest := [.int (an (fPur (nI k)) (nI (σ (8 + (nI k).toNatClampNeg))))]) ⟨hx, hb, hml, hown, hts⟩ (c_L_call_5 l hfl g cy x1 a1 t1 u1 v1 p1 H.size bd r σ Hh n K fl tx ln (nI k) (nI 0) (nI 0) hJ ) ⟨(cB 5 hts wd9_11 wd5_14 wd9_9 rfl rfl (by decide +kernel) ⟨Nat.le_of_ble_eq_true rfl, Nat.le_of_ble_eq_true rfl⟩), hts _ wd9_10⟩ (ps2 (ws := (fQ cy x a tr s0 s1 pa q σ n fl tx ln) ++ fQ cy x1 a1 t1 u1 v1 p1 r σ n fl tx ln) hK hP hD hS hA hX hY _ nd_suffix at_suffix) rfl rfl hl.1 rfl (lv_room (Nat.le_of_ble_eq_true rfl)) dL_alike_148 ⟨by show _ ≤ 300; omega, by show _ ≤ 1800; omega⟩) hP hD hS hA (fun _ => fQ_ad) (fun r H locs hJ hP hD hS => ?_)
    have hP : va_P g vwCl (fQ cy x a tr s0 s1 pa q σ n fl tx ln ++ fQ cy x1 a1 t1 u1 v1 p1 r σ n fl tx ln) H := hP
    have hD : va_D A (fQ cy x a tr s0 s1 pa q σ n fl tx ln ++ fQ cy x1 a1 t1 u1 v1 p1 r σ n fl tx ln) := hD
    show W _ _ _ _ _ _ _ _ _ _ _ _ _ _ _ (F0 mX 151 ls [.int (an (fPur (nI k)) (nI (σ (8 + (nI k).toNatClampNeg)))), .int (an (fPur (nI k)) (nI (σ (8 + (nI k).toNatClampNeg))))])
    refine lv_icmp_ne (tgt := 187) hx hb dL_alike_151 (by decide) (fun c_151 => absurd rfl c_151) (fun _ => ?_)
    refine lv_aload_n hx hb dL_alike_154 rfl (lv_at hl 0 rfl) ?_
    refine lv_bipush (v := (nI 6)) hx hb dL_alike_155 (by decide) ?_
    refine lv_iload hx hb dL_alike_157 (lv_at hl 4 rfl) ?_
    refine lv_iload_n hx hb dL_alike_159 rfl (lv_at hl 2 rfl) ?_
    refine lv_bipush (v := (nI 12)) hx hb dL_alike_160 (by decide) ?_
    refine lv_irem hx hb dL_alike_162 (nI_ne0 (by omega) (by omega)) ?_
    refine ti (pk_rem (a := v) (d := 12) (by omega) (by omega) (by omega)) ?_
    refine lv_iconst (v := (nI 0)) hx hb dL_alike_163 (by decide) ?_
    obtain ⟨hP, hD⟩ := sw_PD (L := []) (M := (fQ cy x a tr s0 s1 pa q σ n fl tx ln)) (T := (fQ cy x1 a1 t1 u1 v1 p1 r σ n fl tx ln)) hP hD
    refine wr_callS (pre := (fQ cy x1 a1 t1 u1 v1 p1 r σ n fl tx ln)) (wc := fQ cy x a tr s0 s1 pa q σ n fl tx ln) (va_runS (As := [.ref (x 0), .int (nI 6), .int (nI k), .int (nI (v % 12)), .int (nI 0)]) (rest := []) ⟨hx, hb, hml, hown, hts⟩ (c_L_call_6 l hfl g cy x a tr s0 s1 pa H.size bd q σ Hh n K fl tx ln (nI k) (nI (v % 12)) (nI 0) hI ) ⟨(cB 5 hts wd9_11 wd5_14 wd9_9 rfl rfl (by decide +kernel) ⟨Nat.le_of_ble_eq_true rfl, Nat.le_of_ble_eq_true rfl⟩), hts _ wd9_10⟩ (ps2 (ws := (fQ cy x1 a1 t1 u1 v1 p1 r σ n fl tx ln) ++ fQ cy x a tr s0 s1 pa q σ n fl tx ln) hK hP hD hS hA hX hY _ nd_suffix at_suffix) rfl rfl hl.1 rfl (lv_room (Nat.le_of_ble_eq_true rfl)) dL_alike_164 ⟨by show _ ≤ 300; omega, by show _ ≤ 1800; omega⟩) hP hD hS hA (fun _ => fQ_ad) (fun q H locs hI hP hD hS => ?_)
    obtain ⟨hP, hD⟩ := sw_PD (L := []) (M := (fQ cy x1 a1 t1 u1 v1 p1 r σ n fl tx ln)) (T := (fQ cy x a tr s0 s1 pa q σ n fl tx ln)) hP hD
    have hP : va_P g vwCl (fQ cy x a tr s0 s1 pa q σ n fl tx ln ++ fQ cy x1 a1 t1 u1 v1 p1 r σ n fl tx ln) H := hP
    have hD : va_D A (fQ cy x a tr s0 s1 pa q σ n fl tx ln ++ fQ cy x1 a1 t1 u1 v1 p1 r σ n fl tx ln) := hD
    show W _ _ _ _ _ _ _ _ _ _ _ _ _ _ _ (F0 mX 167 ls [.int (an (fApa (nI k) (nI (v % 12)) (nI 0)) (wv σ (12 * (nI k).toNatClampNeg + (nI (v % 12)).toNatClampNeg)))])
    refine lv_aload_n hx hb dL_alike_167 rfl (lv_at hl 1 rfl) ?_
    refine lv_bipush (v := (nI 6)) hx hb dL_alike_168 (by decide) ?_
    refine lv_iload hx hb dL_alike_170 (lv_at hl 4 rfl) ?_
    refine lv_iload_n hx hb dL_alike_172 rfl (lv_at hl 2 rfl) ?_
    refine lv_bipush (v := (nI 12)) hx hb dL_alike_173 (by decide) ?_
    refine lv_irem hx hb dL_alike_175 (nI_ne0 (by omega) (by omega)) ?_
    refine ti (pk_rem (a := v) (d := 12) (by omega) (by omega) (by omega)) ?_
    refine lv_iconst (v := (nI 0)) hx hb dL_alike_176 (by decide) ?_
    refine wr_callS (pre := (fQ cy x a tr s0 s1 pa q σ n fl tx ln)) (wc := fQ cy x1 a1 t1 u1 v1 p1 r σ n fl tx ln) (va_runS (As := [.ref (x1 0), .int (nI 6), .int (nI k), .int (nI (v % 12)), .int (nI 0)]) (rest := [.int (an (fApa (nI k) (nI (v % 12)) (nI 0)) (wv σ (12 * (nI k).toNatClampNeg + (nI (v % 12)).toNatClampNeg)))]) ⟨hx, hb, hml, hown, hts⟩ (c_L_call_6 l hfl g cy x1 a1 t1 u1 v1 p1 H.size bd r σ Hh n K fl tx ln (nI k) (nI (v % 12)) (nI 0) hJ ) ⟨(cB 5 hts wd9_11 wd5_14 wd9_9 rfl rfl (by decide +kernel) ⟨Nat.le_of_ble_eq_true rfl, Nat.le_of_ble_eq_true rfl⟩), hts _ wd9_10⟩ (ps2 (ws := (fQ cy x a tr s0 s1 pa q σ n fl tx ln) ++ fQ cy x1 a1 t1 u1 v1 p1 r σ n fl tx ln) hK hP hD hS hA hX hY _ nd_suffix at_suffix) rfl rfl hl.1 rfl (lv_room (Nat.le_of_ble_eq_true rfl)) dL_alike_177 ⟨by show _ ≤ 300; omega, by show _ ≤ 1800; omega⟩) hP hD hS hA (fun _ => fQ_ad) (fun r H locs hJ hP hD hS => ?_)
    have hP : va_P g vwCl (fQ cy x a tr s0 s1 pa q σ n fl tx ln ++ fQ cy x1 a1 t1 u1 v1 p1 r σ n fl tx ln) H := hP
    have hD : va_D A (fQ cy x a tr s0 s1 pa q σ n fl tx ln ++ fQ cy x1 a1 t1 u1 v1 p1 r σ n fl tx ln) := hD
    show W _ _ _ _ _ _ _ _ _ _ _ _ _ _ _ (F0 mX 180 ls [.int (an (fApa (nI k) (nI (v % 12)) (nI 0)) (wv σ (12 * (nI k).toNatClampNeg + (nI (v % 12)).toNatClampNeg))), .int (an (fApa (nI k) (nI (v % 12)) (nI 0)) (wv σ (12 * (nI k).toNatClampNeg + (nI (v % 12)).toNatClampNeg)))])
    refine lv_icmp_ne (tgt := 187) hx hb dL_alike_180 (by decide) (fun c_180 => absurd rfl c_180) (fun _ => ?_)
    refine lv_iconst (v := (nI 1)) hx hb dL_alike_183 (by decide) ?_
    refine lv_goto (tgt := 188) hx hb dL_alike_184 (by decide) ?_
    refine lv_istore_n (lv' := [(3, .int (nI 1)), (0, .ref (x 0)), (1, .ref (x1 0)), (2, .int (nI v)), (4, .int (nI k))]) hx hb dL_alike_188 rfl hl (by decide) rfl (fun ls hl => ?_)
    refine lv_iinc (v := (nI (k + 1))) (lv' := [(4, .int (nI (k + 1))), (3, .int (nI 1)), (0, .ref (x 0)), (1, .ref (x1 0)), (2, .int (nI v))]) hx hb dL_alike_189 hl (k := 4) rfl (nI_add k 1) (by decide) rfl (fun ls hl => ?_)
    refine lv_goto (tgt := 47) hx hb dL_alike_192 (by decide) ?_
    refine W.widen (k := 2 + 10 * (k + 1)) (n := 6 * (2 + 10 * (k + 1))) (by omega) (by omega) ?_
    exact ih47 (k + 1, q, r) H locs ls ⟨hP, hD, hS, hI, hJ, lv_sub hl [2, 3, 4, 1, 0] rfl, (by omega)⟩ (by dsimp only; omega)
