/-! P27: found. -/
set_option maxHeartbeats 4000000 in
set_option maxRecDepth 100000 in
theorem c_L_found (l : Launch) (hfl : l.stackTraces = false) (g : va_G) (cy : Nat → ClassId) (x a tr s0 s1 : Nat → Nat) (pa : Nat → Nat → Nat) (x1 a1 t1 u1 v1 : Nat → Nat) (p1 : Nat → Nat → Nat) (sz : Nat) (bd : Nat) (q r : Sc) (σ : Nat → Nat) (Hh : Nat → Nat → Nat) (n : Nat) (K : Nat → Nat → Nat) (fl : Nat → Bool) (tx : Nat → Nat) (ln : Nat) (v : Nat) (hI : fI bd q σ Hh n K fl tx ln) (hJ : fI bd r σ Hh n K fl tx ln) (hv9 : v < 2 ^ 31) (hV : INV σ Hh n K fl) : Met l yL_found (Cond.code yL_found cL_found 18 (some .boolean) :: wsL_law) ({ frames := 10, cells := 60, slots := 360, locals := 189 } : Room) (va_Pc [.ref (x 0), .ref (x1 0), .int (nI v)] (pr2 g cy (fQ cy x a tr s0 s1 pa q σ n fl tx ln ++ fQ cy x1 a1 t1 u1 v1 p1 r σ n fl tx ln) sz)) (wr_Q (fun _ : Sc × Sc × (Nat → Nat → Nat) × Nat => some (.int (bI true))) (fun u => fI bd u.1 σ u.2.2.1 u.2.2.2 K fl tx ln ∧ fI bd u.2.1 σ u.2.2.1 u.2.2.2 K fl tx ln ∧ INV σ u.2.2.1 u.2.2.2 K fl) (fun u => (fQ cy x a tr s0 s1 pa u.1 σ u.2.2.2 fl tx ln ++ fQ cy x1 a1 t1 u1 v1 p1 u.2.1 σ u.2.2.2 fl tx ln)) g (va_A (fQ cy x a tr s0 s1 pa q σ n fl tx ln ++ fQ cy x1 a1 t1 u1 v1 p1 r σ n fl tx ln) sz)) 60 360 (va_A (fQ cy x a tr s0 s1 pa q σ n fl tx ln ++ fQ cy x1 a1 t1 u1 v1 p1 r σ n fl tx ln) sz) := by
  refine mt_p (cc := cL_found) (maxL := 18) (ret := some .boolean) (by decide +kernel) (Nat.le_of_ble_eq_true rfl) ?_
  intro pX eX s mX below meth cX ls A hx hb hr hml hown hts hlk hsz hAe hA hP hD hK hX hY hl
  subst hsz
  rw [← hAe]
  clear hAe
  have hl : lv_has ls 18 [(0, .ref (x 0)), (1, .ref (x1 0)), (2, .int (nI v))] := hl
  have hS : va_S A s.heap s.heap [] := va_S.rf
  have hW := fI_wf hI
  have hn0 := hW.n0
  have hn1 := hW.n1
  have hh2 := hW.h2
  have hNN : NN = 4294967295 := rfl
  have h1 := hV.2.1
  obtain ⟨d, hd9⟩ : ∃ d, v % σ 0 = d := ⟨_, rfl⟩
  have hd : d < σ 0 := by rw [← hd9]; exact Nat.mod_lt _ (by omega)
  have hn14 := fI_n hI
  have hb9 := hiN_b hn14
  have hb8 := hiN_b hb9.2
  have hb7 := hiN_2 hb9.1
  have db9 := hW.db hd
  have fl9 := ct_le (frd σ) (σ 1)
  refine lv_iload_n hx hb dL_found_0 rfl (lv_at hl 2 rfl) ?_
  refine lv_aload_n hx hb dL_found_1 rfl (lv_at hl 0 rfl) ?_
  refine lv_iconst (v := (nI 2)) hx hb dL_found_2 (by decide) ?_
  refine lv_iconst (v := (nI 0)) hx hb dL_found_3 (by decide) ?_
  refine lv_iconst (v := (nI 0)) hx hb dL_found_4 (by decide) ?_
  refine lv_iconst (v := (nI 0)) hx hb dL_found_5 (by decide) ?_
  obtain ⟨hP, hD⟩ := sw_PD (L := []) (M := (fQ cy x a tr s0 s1 pa q σ n fl tx ln)) (T := (fQ cy x1 a1 t1 u1 v1 p1 r σ n fl tx ln)) hP hD
  refine wr_callS (pre := (fQ cy x1 a1 t1 u1 v1 p1 r σ n fl tx ln)) (wc := fQ cy x a tr s0 s1 pa q σ n fl tx ln) (va_runS (As := [.ref (x 0), .int (nI 2), .int (nI 0), .int (nI 0), .int (nI 0)]) (rest := [.int (nI v)]) ⟨hx, hb, hml, hown, hts⟩ (c_L_call_2 l hfl g cy x a tr s0 s1 pa s.heap.size bd q σ Hh n K fl tx ln (nI 0) (nI 0) (nI 0) hI ) ⟨(cB 5 hts wd9_11 wd5_14 wd9_9 rfl rfl (by decide +kernel) ⟨Nat.le_of_ble_eq_true rfl, Nat.le_of_ble_eq_true rfl⟩), hts _ wd9_10⟩ (ps2 (ws := (fQ cy x1 a1 t1 u1 v1 p1 r σ n fl tx ln) ++ fQ cy x a tr s0 s1 pa q σ n fl tx ln) hK hP hD hS hA hX hY _ nd_suffix at_suffix) rfl rfl hl.1 rfl (lv_room (Nat.le_of_ble_eq_true rfl)) dL_found_6 ⟨by show _ ≤ 60; omega, by show _ ≤ 360; omega⟩) hP hD hS hA (fun _ => fQ_ad) (fun q H locs hI hP hD hS => ?_)
  obtain ⟨hP, hD⟩ := sw_PD (L := []) (M := (fQ cy x1 a1 t1 u1 v1 p1 r σ n fl tx ln)) (T := (fQ cy x a tr s0 s1 pa q σ n fl tx ln)) hP hD
  have hP : va_P g vwCl (fQ cy x a tr s0 s1 pa q σ n fl tx ln ++ fQ cy x1 a1 t1 u1 v1 p1 r σ n fl tx ln) H := hP
  have hD : va_D A (fQ cy x a tr s0 s1 pa q σ n fl tx ln ++ fQ cy x1 a1 t1 u1 v1 p1 r σ n fl tx ln) := hD
  refine ti (show an (fAbo (nI 0)) (nI (nbd σ (nI 0).toNatClampNeg)) = (nI (σ 0)) from (v_ab (w := 0) (by decide))) ?_
  show W _ _ _ _ _ _ _ _ _ _ _ _ _ _ _ (F0 mX 9 ls [.int (nI (σ 0)), .int (nI v)])
  refine lv_irem hx hb dL_found_9 (nI_ne0 (by omega) (by omega)) ?_
  refine ti (pk_rem (a := v) (d := (σ 0)) (by omega) (by omega) (by omega)) ?_
  refine ti (show (nI (v % (σ 0))) = (nI d) from (congrArg nI hd9)) ?_
  refine lv_istore_n (lv' := [(3, .int (nI d)), (0, .ref (x 0)), (1, .ref (x1 0)), (2, .int (nI v))]) hx hb dL_found_10 rfl hl (by decide) rfl (fun ls hl => ?_)
  refine lv_aload_n hx hb dL_found_11 rfl (lv_at hl 1 rfl) ?_
  refine lv_iconst (v := (nI 3)) hx hb dL_found_12 (by decide) ?_
  refine lv_iload_n hx hb dL_found_13 rfl (lv_at hl 0 rfl) ?_
  refine lv_iconst (v := (nI 5)) hx hb dL_found_14 (by decide) ?_
  refine lv_iconst (v := (nI 0)) hx hb dL_found_15 (by decide) ?_
  obtain ⟨hP, hD⟩ := sw_PD (L := []) (M := (fQ cy x a tr s0 s1 pa q σ n fl tx ln)) (T := (fQ cy x1 a1 t1 u1 v1 p1 r σ n fl tx ln)) hP hD
  refine wr_callS (pre := (fQ cy x1 a1 t1 u1 v1 p1 r σ n fl tx ln)) (wc := fQ cy x a tr s0 s1 pa q σ n fl tx ln) (va_runS (As := [.ref (x 0), .int (nI 3), .int (nI d), .int (nI 5), .int (nI 0)]) (rest := []) ⟨hx, hb, hml, hown, hts⟩ (c_L_call_3 l hfl g cy x a tr s0 s1 pa H.size bd q σ Hh n K fl tx ln (nI d) (nI 5) (nI 0) hI ) ⟨(cB 5 hts wd9_11 wd5_14 wd9_9 rfl rfl (by decide +kernel) ⟨Nat.le_of_ble_eq_true rfl, Nat.le_of_ble_eq_true rfl⟩), hts _ wd9_10⟩ (ps2 (ws := (fQ cy x1 a1 t1 u1 v1 p1 r σ n fl tx ln) ++ fQ cy x a tr s0 s1 pa q σ n fl tx ln) hK hP hD hS hA hX hY _ nd_suffix at_suffix) rfl rfl hl.1 rfl (lv_room (Nat.le_of_ble_eq_true rfl)) dL_found_16 ⟨by show _ ≤ 60; omega, by show _ ≤ 360; omega⟩) hP hD hS hA (fun _ => fQ_ad) (fun q H locs hI hP hD hS => ?_)
  obtain ⟨hP, hD⟩ := sw_PD (L := []) (M := (fQ cy x1 a1 t1 u1 v1 p1 r σ n fl tx ln)) (T := (fQ cy x a tr s0 s1 pa q σ n fl tx ln)) hP hD
  have hP : va_P g vwCl (fQ cy x a tr s0 s1 pa q σ n fl tx ln ++ fQ cy x1 a1 t1 u1 v1 p1 r σ n fl tx ln) H := hP
  have hD : va_D A (fQ cy x a tr s0 s1 pa q σ n fl tx ln ++ fQ cy x1 a1 t1 u1 v1 p1 r σ n fl tx ln) := hD
  refine ti (show an (fDog σ (nI d) (nI 5)) (nI (ndg σ (nI d).toNatClampNeg (nI 5).toNatClampNeg)) = (nI (if msg σ d then 1 else 0)) from (v_dg (w := 5) hn0 hd (by decide))) ?_
  show W _ _ _ _ _ _ _ _ _ _ _ _ _ _ _ (F0 mX 19 ls [.int (nI (if msg σ d then 1 else 0))])
  by_cases hm9 : msg σ d = true
  · skip
    refine ti (show (nI (if msg σ d then 1 else 0)) = (nI 1) from (by rw [if_pos hm9])) ?_
    refine lv_if_ne (tgt := 24) hx hb dL_found_19 (by decide) (fun c_19 => ?_) (fun c_19 => ?_)
    · have c_19 := (nz_ne c_19 (by omega))
      have le9 := shr_le (d := d) (fi := (v / 6) % 8) (c := (v / 384) % 12) (k := 8) hW (by omega) (Nat.le_refl _)
      have ge9 := shr_ge (d := d) (fi := (v / 6) % 8) (c := (v / 384) % 12) hW (by omega)
      refine lv_iload_n hx hb dL_found_24 rfl (lv_at hl 3 rfl) ?_
      refine lv_bipush (v := (nI 6)) hx hb dL_found_25 (by decide) ?_
      refine lv_idiv hx hb dL_found_27 (nI_ne0 (by omega) (by omega)) ?_
      refine ti (pk_div (a := v) (d := 6) (by omega) (by omega) (by omega)) ?_
      refine lv_bipush (v := (nI 8)) hx hb dL_found_28 (by decide) ?_
      refine lv_irem hx hb dL_found_30 (nI_ne0 (by omega) (by omega)) ?_
      refine ti (pk_rem (a := (v / 6)) (d := 8) (by omega) (by omega) (by omega)) ?_
      refine lv_istore (lv' := [(4, .int (nI ((v / 6) % 8))), (3, .int (nI d)), (0, .ref (x 0)), (1, .ref (x1 0)), (2, .int (nI v))]) hx hb dL_found_31 hl (by decide) rfl (fun ls hl => ?_)
      refine lv_iload_n hx hb dL_found_33 rfl (lv_at hl 4 rfl) ?_
      refine lv_bipush (v := (nI 48)) hx hb dL_found_34 (by decide) ?_
      refine lv_idiv hx hb dL_found_36 (nI_ne0 (by omega) (by omega)) ?_
      refine ti (pk_div (a := v) (d := 48) (by omega) (by omega) (by omega)) ?_
      refine lv_bipush (v := (nI 8)) hx hb dL_found_37 (by decide) ?_
      refine lv_irem hx hb dL_found_39 (nI_ne0 (by omega) (by omega)) ?_
      refine ti (pk_rem (a := (v / 48)) (d := 8) (by omega) (by omega) (by omega)) ?_
      refine lv_istore (lv' := [(5, .int (nI ((v / 48) % 8))), (4, .int (nI ((v / 6) % 8))), (3, .int (nI d)), (0, .ref (x 0)), (1, .ref (x1 0)), (2, .int (nI v))]) hx hb dL_found_40 hl (by decide) rfl (fun ls hl => ?_)
      refine lv_iload_n hx hb dL_found_42 rfl (lv_at hl 5 rfl) ?_
      refine lv_sipush (v := (nI 384)) hx hb dL_found_43 (by decide) ?_
      refine lv_idiv hx hb dL_found_46 (nI_ne0 (by omega) (by omega)) ?_
      refine ti (pk_div (a := v) (d := 384) (by omega) (by omega) (by omega)) ?_
      refine lv_bipush (v := (nI 12)) hx hb dL_found_47 (by decide) ?_
      refine lv_irem hx hb dL_found_49 (nI_ne0 (by omega) (by omega)) ?_
      refine ti (pk_rem (a := (v / 384)) (d := 12) (by omega) (by omega) (by omega)) ?_
      refine lv_istore (lv' := [(6, .int (nI ((v / 384) % 12))), (5, .int (nI ((v / 48) % 8))), (4, .int (nI ((v / 6) % 8))), (3, .int (nI d)), (0, .ref (x 0)), (1, .ref (x1 0)), (2, .int (nI v))]) hx hb dL_found_50 hl (by decide) rfl (fun ls hl => ?_)
      refine lv_aload_n hx hb dL_found_52 rfl (lv_at hl 4 rfl) ?_
      refine lv_iload_n hx hb dL_found_53 rfl (lv_at hl 3 rfl) ?_
      refine lv_iload hx hb dL_found_54 (lv_at hl 2 rfl) ?_
      refine lv_iload hx hb dL_found_56 (lv_at hl 0 rfl) ?_
      refine lv_iload hx hb dL_found_58 (lv_at hl 1 rfl) ?_
      obtain ⟨hP, hD⟩ := sw_PD (L := []) (M := (fQ cy x a tr s0 s1 pa q σ n fl tx ln)) (T := (fQ cy x1 a1 t1 u1 v1 p1 r σ n fl tx ln)) hP hD
      refine wr_callS (pre := (fQ cy x1 a1 t1 u1 v1 p1 r σ n fl tx ln)) (wc := fQ cy x a tr s0 s1 pa q σ n fl tx ln) (vx_runSW (hh := [(0, 9, 10, 13), (0, 9, 15, 19)]) (As := [.ref (x 0), .int (nI d), .int (nI ((v / 6) % 8)), .int (nI ((v / 384) % 12)), .int (nI ((v / 48) % 8))]) (rest := []) ⟨hx, hb, hml, hown, hts⟩ (c_L_ifs l hfl g cy x a tr s0 s1 pa H.size bd q σ Hh n K fl tx ln (nI d) (nI ((v / 6) % 8)) (nI ((v / 384) % 12)) (nI ((v / 48) % 8)) hI ) (vx_cwSW 5 hts (hl_in wd26_13 wd5_14 wd26_11 wd26_12) rfl rfl rfl (by decide +kernel) ⟨Nat.le_of_ble_eq_true rfl, Nat.le_of_ble_eq_true rfl⟩) (ps2 (ws := (fQ cy x1 a1 t1 u1 v1 p1 r σ n fl tx ln) ++ fQ cy x a tr s0 s1 pa q σ n fl tx ln) hK hP hD hS hA hX hY _ nd_suffix at_suffix) rfl rfl hl.1 rfl (lv_room (Nat.le_of_ble_eq_true rfl)) dL_found_60 ⟨by show _ ≤ 60; omega, by show _ ≤ 360; omega⟩) hP hD hS hA (fun _ => fQ_ad) (fun q H locs hI hP hD hS => ?_)
      obtain ⟨hP, hD⟩ := sw_PD (L := []) (M := (fQ cy x1 a1 t1 u1 v1 p1 r σ n fl tx ln)) (T := (fQ cy x a tr s0 s1 pa q σ n fl tx ln)) hP hD
      have hP : va_P g vwCl (fQ cy x a tr s0 s1 pa q σ n fl tx ln ++ fQ cy x1 a1 t1 u1 v1 p1 r σ n fl tx ln) H := hP
      have hD : va_D A (fQ cy x a tr s0 s1 pa q σ n fl tx ln ++ fQ cy x1 a1 t1 u1 v1 p1 r σ n fl tx ln) := hD
      refine ti (show an (fIff σ (nI d) (nI ((v / 6) % 8)) (nI ((v / 384) % 12)) (nI ((v / 48) % 8))) (nI (shr σ (nI d).toNatClampNeg (nI ((v / 6) % 8)).toNatClampNeg (nI ((v / 384) % 12)).toNatClampNeg (nI ((v / 48) % 8)).toNatClampNeg)) = (nI (shr σ d ((v / 6) % 8) ((v / 384) % 12) ((v / 48) % 8))) from (v_if hn0 hd hm9 (by omega) (by omega) (by omega))) ?_
      show W _ _ _ _ _ _ _ _ _ _ _ _ _ _ _ (F0 mX 63 ls [.int (nI (shr σ d ((v / 6) % 8) ((v / 384) % 12) ((v / 48) % 8)))])
      refine lv_istore (lv' := [(7, .int (nI (shr σ d ((v / 6) % 8) ((v / 384) % 12) ((v / 48) % 8)))), (6, .int (nI ((v / 384) % 12))), (5, .int (nI ((v / 48) % 8))), (4, .int (nI ((v / 6) % 8))), (3, .int (nI d)), (0, .ref (x 0)), (1, .ref (x1 0)), (2, .int (nI v))]) hx hb dL_found_63 hl (by decide) rfl (fun ls hl => ?_)
      refine lv_aload_n hx hb dL_found_65 rfl (lv_at hl 5 rfl) ?_
      refine lv_iload_n hx hb dL_found_66 rfl (lv_at hl 4 rfl) ?_
      refine lv_iload hx hb dL_found_67 (lv_at hl 3 rfl) ?_
      refine lv_iload hx hb dL_found_69 (lv_at hl 1 rfl) ?_
      refine lv_iload hx hb dL_found_71 (lv_at hl 3 rfl) ?_
      obtain ⟨hP, hD⟩ := sw_PD (L := []) (M := (fQ cy x a tr s0 s1 pa q σ n fl tx ln)) (T := (fQ cy x1 a1 t1 u1 v1 p1 r σ n fl tx ln)) hP hD
      refine wr_callS (pre := (fQ cy x1 a1 t1 u1 v1 p1 r σ n fl tx ln)) (wc := fQ cy x a tr s0 s1 pa q σ n fl tx ln) (vx_runSW (hh := [(0, 9, 10, 13), (0, 9, 15, 19)]) (As := [.ref (x 0), .int (nI d), .int (nI ((v / 6) % 8)), .int (nI ((v / 384) % 12)), .int (nI ((v / 6) % 8))]) (rest := []) ⟨hx, hb, hml, hown, hts⟩ (c_L_ifs l hfl g cy x a tr s0 s1 pa H.size bd q σ Hh n K fl tx ln (nI d) (nI ((v / 6) % 8)) (nI ((v / 384) % 12)) (nI ((v / 6) % 8)) hI ) (vx_cwSW 5 hts (hl_in wd26_13 wd5_14 wd26_11 wd26_12) rfl rfl rfl (by decide +kernel) ⟨Nat.le_of_ble_eq_true rfl, Nat.le_of_ble_eq_true rfl⟩) (ps2 (ws := (fQ cy x1 a1 t1 u1 v1 p1 r σ n fl tx ln) ++ fQ cy x a tr s0 s1 pa q σ n fl tx ln) hK hP hD hS hA hX hY _ nd_suffix at_suffix) rfl rfl hl.1 rfl (lv_room (Nat.le_of_ble_eq_true rfl)) dL_found_73 ⟨by show _ ≤ 60; omega, by show _ ≤ 360; omega⟩) hP hD hS hA (fun _ => fQ_ad) (fun q H locs hI hP hD hS => ?_)
      obtain ⟨hP, hD⟩ := sw_PD (L := []) (M := (fQ cy x1 a1 t1 u1 v1 p1 r σ n fl tx ln)) (T := (fQ cy x a tr s0 s1 pa q σ n fl tx ln)) hP hD
      have hP : va_P g vwCl (fQ cy x a tr s0 s1 pa q σ n fl tx ln ++ fQ cy x1 a1 t1 u1 v1 p1 r σ n fl tx ln) H := hP
      have hD : va_D A (fQ cy x a tr s0 s1 pa q σ n fl tx ln ++ fQ cy x1 a1 t1 u1 v1 p1 r σ n fl tx ln) := hD
      refine ti (show an (fIff σ (nI d) (nI ((v / 6) % 8)) (nI ((v / 384) % 12)) (nI ((v / 6) % 8))) (nI (shr σ (nI d).toNatClampNeg (nI ((v / 6) % 8)).toNatClampNeg (nI ((v / 384) % 12)).toNatClampNeg (nI ((v / 6) % 8)).toNatClampNeg)) = (nI (shr σ d ((v / 6) % 8) ((v / 384) % 12) ((v / 6) % 8))) from (v_if hn0 hd hm9 (by omega) (by omega) (by omega))) ?_
      show W _ _ _ _ _ _ _ _ _ _ _ _ _ _ _ (F0 mX 76 ls [.int (nI (shr σ d ((v / 6) % 8) ((v / 384) % 12) ((v / 6) % 8)))])
      refine lv_istore (lv' := [(8, .int (nI (shr σ d ((v / 6) % 8) ((v / 384) % 12) ((v / 6) % 8)))), (7, .int (nI (shr σ d ((v / 6) % 8) ((v / 384) % 12) ((v / 48) % 8)))), (6, .int (nI ((v / 384) % 12))), (5, .int (nI ((v / 48) % 8))), (4, .int (nI ((v / 6) % 8))), (3, .int (nI d)), (0, .ref (x 0)), (1, .ref (x1 0)), (2, .int (nI v))]) hx hb dL_found_76 hl (by decide) rfl (fun ls hl => ?_)
      refine lv_aload_n hx hb dL_found_78 rfl (lv_at hl 6 rfl) ?_
      refine lv_iconst (v := (nI 5)) hx hb dL_found_79 (by decide) ?_
      refine lv_iload hx hb dL_found_80 (lv_at hl 3 rfl) ?_
      refine lv_iconst (v := (nI 0)) hx hb dL_found_82 (by decide) ?_
      refine lv_iconst (v := (nI 0)) hx hb dL_found_83 (by decide) ?_
      obtain ⟨hP, hD⟩ := sw_PD (L := []) (M := (fQ cy x a tr s0 s1 pa q σ n fl tx ln)) (T := (fQ cy x1 a1 t1 u1 v1 p1 r σ n fl tx ln)) hP hD
      refine wr_callS (pre := (fQ cy x1 a1 t1 u1 v1 p1 r σ n fl tx ln)) (wc := fQ cy x a tr s0 s1 pa q σ n fl tx ln) (va_runS (As := [.ref (x 0), .int (nI 5), .int (nI ((v / 48) % 8)), .int (nI 0), .int (nI 0)]) (rest := []) ⟨hx, hb, hml, hown, hts⟩ (c_L_call_5 l hfl g cy x a tr s0 s1 pa H.size bd q σ Hh n K fl tx ln (nI ((v / 48) % 8)) (nI 0) (nI 0) hI ) ⟨(cB 5 hts wd9_11 wd5_14 wd9_9 rfl rfl (by decide +kernel) ⟨Nat.le_of_ble_eq_true rfl, Nat.le_of_ble_eq_true rfl⟩), hts _ wd9_10⟩ (ps2 (ws := (fQ cy x1 a1 t1 u1 v1 p1 r σ n fl tx ln) ++ fQ cy x a tr s0 s1 pa q σ n fl tx ln) hK hP hD hS hA hX hY _ nd_suffix at_suffix) rfl rfl hl.1 rfl (lv_room (Nat.le_of_ble_eq_true rfl)) dL_found_84 ⟨by show _ ≤ 60; omega, by show _ ≤ 360; omega⟩) hP hD hS hA (fun _ => fQ_ad) (fun q H locs hI hP hD hS => ?_)
      obtain ⟨hP, hD⟩ := sw_PD (L := []) (M := (fQ cy x1 a1 t1 u1 v1 p1 r σ n fl tx ln)) (T := (fQ cy x a tr s0 s1 pa q σ n fl tx ln)) hP hD
      have hP : va_P g vwCl (fQ cy x a tr s0 s1 pa q σ n fl tx ln ++ fQ cy x1 a1 t1 u1 v1 p1 r σ n fl tx ln) H := hP
      have hD : va_D A (fQ cy x a tr s0 s1 pa q σ n fl tx ln ++ fQ cy x1 a1 t1 u1 v1 p1 r σ n fl tx ln) := hD
      refine ti (show an (fPur (nI ((v / 48) % 8))) (nI (σ (8 + (nI ((v / 48) % 8)).toNatClampNeg))) = (nI (σ (8 + ((v / 48) % 8)))) from (v_pu (by omega))) ?_
      show W _ _ _ _ _ _ _ _ _ _ _ _ _ _ _ (F0 mX 87 ls [.int (nI (σ (8 + ((v / 48) % 8))))])
      refine lv_istore (lv' := [(9, .int (nI (σ (8 + ((v / 48) % 8))))), (8, .int (nI (shr σ d ((v / 6) % 8) ((v / 384) % 12) ((v / 6) % 8)))), (7, .int (nI (shr σ d ((v / 6) % 8) ((v / 384) % 12) ((v / 48) % 8)))), (6, .int (nI ((v / 384) % 12))), (5, .int (nI ((v / 48) % 8))), (4, .int (nI ((v / 6) % 8))), (3, .int (nI d)), (0, .ref (x 0)), (1, .ref (x1 0)), (2, .int (nI v))]) hx hb dL_found_87 hl (by decide) rfl (fun ls hl => ?_)
      refine lv_aload_n hx hb dL_found_89 rfl (lv_at hl 7 rfl) ?_
      refine lv_iconst (v := (nI 2)) hx hb dL_found_90 (by decide) ?_
      refine lv_iconst (v := (nI 5)) hx hb dL_found_91 (by decide) ?_
      refine lv_iconst (v := (nI 0)) hx hb dL_found_92 (by decide) ?_
      refine lv_iconst (v := (nI 0)) hx hb dL_found_93 (by decide) ?_
      obtain ⟨hP, hD⟩ := sw_PD (L := []) (M := (fQ cy x a tr s0 s1 pa q σ n fl tx ln)) (T := (fQ cy x1 a1 t1 u1 v1 p1 r σ n fl tx ln)) hP hD
      refine wr_callS (pre := (fQ cy x1 a1 t1 u1 v1 p1 r σ n fl tx ln)) (wc := fQ cy x a tr s0 s1 pa q σ n fl tx ln) (va_runS (As := [.ref (x 0), .int (nI 2), .int (nI 5), .int (nI 0), .int (nI 0)]) (rest := []) ⟨hx, hb, hml, hown, hts⟩ (c_L_call_2 l hfl g cy x a tr s0 s1 pa H.size bd q σ Hh n K fl tx ln (nI 5) (nI 0) (nI 0) hI ) ⟨(cB 5 hts wd9_11 wd5_14 wd9_9 rfl rfl (by decide +kernel) ⟨Nat.le_of_ble_eq_true rfl, Nat.le_of_ble_eq_true rfl⟩), hts _ wd9_10⟩ (ps2 (ws := (fQ cy x1 a1 t1 u1 v1 p1 r σ n fl tx ln) ++ fQ cy x a tr s0 s1 pa q σ n fl tx ln) hK hP hD hS hA hX hY _ nd_suffix at_suffix) rfl rfl hl.1 rfl (lv_room (Nat.le_of_ble_eq_true rfl)) dL_found_94 ⟨by show _ ≤ 60; omega, by show _ ≤ 360; omega⟩) hP hD hS hA (fun _ => fQ_ad) (fun q H locs hI hP hD hS => ?_)
      obtain ⟨hP, hD⟩ := sw_PD (L := []) (M := (fQ cy x1 a1 t1 u1 v1 p1 r σ n fl tx ln)) (T := (fQ cy x a tr s0 s1 pa q σ n fl tx ln)) hP hD
      have hP : va_P g vwCl (fQ cy x a tr s0 s1 pa q σ n fl tx ln ++ fQ cy x1 a1 t1 u1 v1 p1 r σ n fl tx ln) H := hP
      have hD : va_D A (fQ cy x a tr s0 s1 pa q σ n fl tx ln ++ fQ cy x1 a1 t1 u1 v1 p1 r σ n fl tx ln) := hD
      refine ti (show an (fAbo (nI 5)) (nI (nbd σ (nI 5).toNatClampNeg)) = (nI (σ 4)) from (v_ab (w := 5) (by decide))) ?_
      show W _ _ _ _ _ _ _ _ _ _ _ _ _ _ _ (F0 mX 97 ls [.int (nI (σ 4))])
      refine lv_istore (lv' := [(10, .int (nI (σ 4))), (9, .int (nI (σ (8 + ((v / 48) % 8))))), (8, .int (nI (shr σ d ((v / 6) % 8) ((v / 384) % 12) ((v / 6) % 8)))), (7, .int (nI (shr σ d ((v / 6) % 8) ((v / 384) % 12) ((v / 48) % 8)))), (6, .int (nI ((v / 384) % 12))), (5, .int (nI ((v / 48) % 8))), (4, .int (nI ((v / 6) % 8))), (3, .int (nI d)), (0, .ref (x 0)), (1, .ref (x1 0)), (2, .int (nI v))]) hx hb dL_found_97 hl (by decide) rfl (fun ls hl => ?_)
      refine lv_aload_n hx hb dL_found_99 rfl (lv_at hl 8 rfl) ?_
      refine lv_iconst (v := (nI 2)) hx hb dL_found_100 (by decide) ?_
      refine lv_bipush (v := (nI 6)) hx hb dL_found_101 (by decide) ?_
      refine lv_iconst (v := (nI 0)) hx hb dL_found_103 (by decide) ?_
      refine lv_iconst (v := (nI 0)) hx hb dL_found_104 (by decide) ?_
      obtain ⟨hP, hD⟩ := sw_PD (L := []) (M := (fQ cy x a tr s0 s1 pa q σ n fl tx ln)) (T := (fQ cy x1 a1 t1 u1 v1 p1 r σ n fl tx ln)) hP hD
      refine wr_callS (pre := (fQ cy x1 a1 t1 u1 v1 p1 r σ n fl tx ln)) (wc := fQ cy x a tr s0 s1 pa q σ n fl tx ln) (va_runS (As := [.ref (x 0), .int (nI 2), .int (nI 6), .int (nI 0), .int (nI 0)]) (rest := []) ⟨hx, hb, hml, hown, hts⟩ (c_L_call_2 l hfl g cy x a tr s0 s1 pa H.size bd q σ Hh n K fl tx ln (nI 6) (nI 0) (nI 0) hI ) ⟨(cB 5 hts wd9_11 wd5_14 wd9_9 rfl rfl (by decide +kernel) ⟨Nat.le_of_ble_eq_true rfl, Nat.le_of_ble_eq_true rfl⟩), hts _ wd9_10⟩ (ps2 (ws := (fQ cy x1 a1 t1 u1 v1 p1 r σ n fl tx ln) ++ fQ cy x a tr s0 s1 pa q σ n fl tx ln) hK hP hD hS hA hX hY _ nd_suffix at_suffix) rfl rfl hl.1 rfl (lv_room (Nat.le_of_ble_eq_true rfl)) dL_found_105 ⟨by show _ ≤ 60; omega, by show _ ≤ 360; omega⟩) hP hD hS hA (fun _ => fQ_ad) (fun q H locs hI hP hD hS => ?_)
      obtain ⟨hP, hD⟩ := sw_PD (L := []) (M := (fQ cy x1 a1 t1 u1 v1 p1 r σ n fl tx ln)) (T := (fQ cy x a tr s0 s1 pa q σ n fl tx ln)) hP hD
      have hP : va_P g vwCl (fQ cy x a tr s0 s1 pa q σ n fl tx ln ++ fQ cy x1 a1 t1 u1 v1 p1 r σ n fl tx ln) H := hP
      have hD : va_D A (fQ cy x a tr s0 s1 pa q σ n fl tx ln ++ fQ cy x1 a1 t1 u1 v1 p1 r σ n fl tx ln) := hD
      refine ti (show an (fAbo (nI 6)) (nI (nbd σ (nI 6).toNatClampNeg)) = (nI (σ 5)) from (v_ab (w := 6) (by decide))) ?_
      show W _ _ _ _ _ _ _ _ _ _ _ _ _ _ _ (F0 mX 108 ls [.int (nI (σ 5))])
      refine lv_istore (lv' := [(11, .int (nI (σ 5))), (10, .int (nI (σ 4))), (9, .int (nI (σ (8 + ((v / 48) % 8))))), (8, .int (nI (shr σ d ((v / 6) % 8) ((v / 384) % 12) ((v / 6) % 8)))), (7, .int (nI (shr σ d ((v / 6) % 8) ((v / 384) % 12) ((v / 48) % 8)))), (6, .int (nI ((v / 384) % 12))), (5, .int (nI ((v / 48) % 8))), (4, .int (nI ((v / 6) % 8))), (3, .int (nI d)), (0, .ref (x 0)), (1, .ref (x1 0)), (2, .int (nI v))]) hx hb dL_found_108 hl (by decide) rfl (fun ls hl => ?_)
      refine lv_aload_n hx hb dL_found_110 rfl (lv_at hl 9 rfl) ?_
      refine lv_iconst (v := (nI 3)) hx hb dL_found_111 (by decide) ?_
      refine lv_iload_n hx hb dL_found_112 rfl (lv_at hl 8 rfl) ?_
      refine lv_iconst (v := (nI 4)) hx hb dL_found_113 (by decide) ?_
      refine lv_iconst (v := (nI 0)) hx hb dL_found_114 (by decide) ?_
      obtain ⟨hP, hD⟩ := sw_PD (L := []) (M := (fQ cy x a tr s0 s1 pa q σ n fl tx ln)) (T := (fQ cy x1 a1 t1 u1 v1 p1 r σ n fl tx ln)) hP hD
      refine wr_callS (pre := (fQ cy x1 a1 t1 u1 v1 p1 r σ n fl tx ln)) (wc := fQ cy x a tr s0 s1 pa q σ n fl tx ln) (va_runS (As := [.ref (x 0), .int (nI 3), .int (nI d), .int (nI 4), .int (nI 0)]) (rest := []) ⟨hx, hb, hml, hown, hts⟩ (c_L_call_3 l hfl g cy x a tr s0 s1 pa H.size bd q σ Hh n K fl tx ln (nI d) (nI 4) (nI 0) hI ) ⟨(cB 5 hts wd9_11 wd5_14 wd9_9 rfl rfl (by decide +kernel) ⟨Nat.le_of_ble_eq_true rfl, Nat.le_of_ble_eq_true rfl⟩), hts _ wd9_10⟩ (ps2 (ws := (fQ cy x1 a1 t1 u1 v1 p1 r σ n fl tx ln) ++ fQ cy x a tr s0 s1 pa q σ n fl tx ln) hK hP hD hS hA hX hY _ nd_suffix at_suffix) rfl rfl hl.1 rfl (lv_room (Nat.le_of_ble_eq_true rfl)) dL_found_115 ⟨by show _ ≤ 60; omega, by show _ ≤ 360; omega⟩) hP hD hS hA (fun _ => fQ_ad) (fun q H locs hI hP hD hS => ?_)
      obtain ⟨hP, hD⟩ := sw_PD (L := []) (M := (fQ cy x1 a1 t1 u1 v1 p1 r σ n fl tx ln)) (T := (fQ cy x a tr s0 s1 pa q σ n fl tx ln)) hP hD
      have hP : va_P g vwCl (fQ cy x a tr s0 s1 pa q σ n fl tx ln ++ fQ cy x1 a1 t1 u1 v1 p1 r σ n fl tx ln) H := hP
      have hD : va_D A (fQ cy x a tr s0 s1 pa q σ n fl tx ln ++ fQ cy x1 a1 t1 u1 v1 p1 r σ n fl tx ln) := hD
      refine ti (show an (fDog σ (nI d) (nI 4)) (nI (ndg σ (nI d).toNatClampNeg (nI 4).toNatClampNeg)) = (nI (dg σ d 4)) from (v_dg (w := 4) hn0 hd (by decide))) ?_
      show W _ _ _ _ _ _ _ _ _ _ _ _ _ _ _ (F0 mX 118 ls [.int (nI (dg σ d 4))])
      refine lv_istore (lv' := [(12, .int (nI (dg σ d 4))), (11, .int (nI (σ 5))), (10, .int (nI (σ 4))), (9, .int (nI (σ (8 + ((v / 48) % 8))))), (8, .int (nI (shr σ d ((v / 6) % 8) ((v / 384) % 12) ((v / 6) % 8)))), (7, .int (nI (shr σ d ((v / 6) % 8) ((v / 384) % 12) ((v / 48) % 8)))), (6, .int (nI ((v / 384) % 12))), (5, .int (nI ((v / 48) % 8))), (4, .int (nI ((v / 6) % 8))), (3, .int (nI d)), (0, .ref (x 0)), (1, .ref (x1 0)), (2, .int (nI v))]) hx hb dL_found_118 hl (by decide) rfl (fun ls hl => ?_)
      refine lv_iconst (v := (nI 0)) hx hb dL_found_120 (by decide) ?_
      refine lv_istore (lv' := [(13, .int (nI 0)), (12, .int (nI (dg σ d 4))), (11, .int (nI (σ 5))), (10, .int (nI (σ 4))), (9, .int (nI (σ (8 + ((v / 48) % 8))))), (8, .int (nI (shr σ d ((v / 6) % 8) ((v / 384) % 12) ((v / 6) % 8)))), (7, .int (nI (shr σ d ((v / 6) % 8) ((v / 384) % 12) ((v / 48) % 8)))), (6, .int (nI ((v / 384) % 12))), (5, .int (nI ((v / 48) % 8))), (4, .int (nI ((v / 6) % 8))), (3, .int (nI d)), (0, .ref (x 0)), (1, .ref (x1 0)), (2, .int (nI v))]) hx hb dL_found_121 hl (by decide) rfl (fun ls hl => ?_)
      refine lv_iconst (v := (nI 0)) hx hb dL_found_123 (by decide) ?_
      refine lv_istore (lv' := [(14, .int (nI 0)), (13, .int (nI 0)), (12, .int (nI (dg σ d 4))), (11, .int (nI (σ 5))), (10, .int (nI (σ 4))), (9, .int (nI (σ (8 + ((v / 48) % 8))))), (8, .int (nI (shr σ d ((v / 6) % 8) ((v / 384) % 12) ((v / 6) % 8)))), (7, .int (nI (shr σ d ((v / 6) % 8) ((v / 384) % 12) ((v / 48) % 8)))), (6, .int (nI ((v / 384) % 12))), (5, .int (nI ((v / 48) % 8))), (4, .int (nI ((v / 6) % 8))), (3, .int (nI d)), (0, .ref (x 0)), (1, .ref (x1 0)), (2, .int (nI v))]) hx hb dL_found_124 hl (by decide) rfl (fun ls hl => ?_)
      have hl : lv_has ls 18 [(14, .int (nI 0)), (13, .int (nI (sm (shr σ d ((v / 6) % 8) ((v / 384) % 12)) 0))), (12, .int (nI (dg σ d 4))), (11, .int (nI (σ 5))), (10, .int (nI (σ 4))), (9, .int (nI (σ (8 + ((v / 48) % 8))))), (8, .int (nI (shr σ d ((v / 6) % 8) ((v / 384) % 12) ((v / 6) % 8)))), (7, .int (nI (shr σ d ((v / 6) % 8) ((v / 384) % 12) ((v / 48) % 8)))), (6, .int (nI ((v / 384) % 12))), (5, .int (nI ((v / 48) % 8))), (4, .int (nI ((v / 6) % 8))), (3, .int (nI d)), (0, .ref (x 0)), (1, .ref (x1 0)), (2, .int (nI v))] := by rw [← show (nI 0) = (nI (sm (shr σ d ((v / 6) % 8) ((v / 384) % 12)) 0)) from rfl]; exact hl
      refine W.widen (k := 10 + 0) (n := 6 * (10 + 0)) (by omega) (by omega) ?_
      refine lp_ac (fc := fun x9 => 10 + x9.1) (fs := fun x9 => 6 * (10 + x9.1)) (σ := (Nat) × Sc × Sc) (fun x9 H9 locs9 ls9 => va_P g vwCl (fQ cy x a tr s0 s1 pa x9.2.1 σ n fl tx ln ++ fQ cy x1 a1 t1 u1 v1 p1 x9.2.2 σ n fl tx ln) H9 ∧ va_D A (fQ cy x a tr s0 s1 pa x9.2.1 σ n fl tx ln ++ fQ cy x1 a1 t1 u1 v1 p1 x9.2.2 σ n fl tx ln) ∧ va_S A s.heap H9 locs9 ∧ fI bd x9.2.1 σ Hh n K fl tx ln ∧ fI bd x9.2.2 σ Hh n K fl tx ln ∧ lv_has ls9 18 [(0, .ref (x 0)), (1, .ref (x1 0)), (2, .int (nI v)), (3, .int (nI d)), (4, .int (nI ((v / 6) % 8))), (5, .int (nI ((v / 48) % 8))), (6, .int (nI ((v / 384) % 12))), (7, .int (nI (shr σ d ((v / 6) % 8) ((v / 384) % 12) ((v / 48) % 8)))), (8, .int (nI (shr σ d ((v / 6) % 8) ((v / 384) % 12) ((v / 6) % 8)))), (9, .int (nI (σ (8 + ((v / 48) % 8))))), (10, .int (nI (σ 4))), (11, .int (nI (σ 5))), (12, .int (nI (dg σ d 4))), (13, .int (nI (sm (shr σ d ((v / 6) % 8) ((v / 384) % 12)) x9.1))), (14, .int (nI x9.1))] ∧ (x9.1 ≤ 8)) (fun x9 => 8 - x9.1) (0, q, r) ⟨hP, hD, hS, hI, hJ, lv_sub hl [12, 13, 14, 11, 10, 9, 8, 7, 6, 5, 4, 3, 2, 1, 0] rfl, (Nat.zero_le _)⟩ ?_
      rintro ⟨f, q, r⟩ H locs ls ⟨hP, hD, hS, hI, hJ, hl, hf⟩ ih126
      dsimp only at hP hD hl hI hJ hf ih126 ⊢
      refine lv_iload hx hb dL_found_126 (lv_at hl 14 rfl) ?_
      refine lv_bipush (v := (nI 8)) hx hb dL_found_128 (by decide) ?_
      refine lv_icmp_ge (tgt := 155) hx hb dL_found_130 (by decide) (fun c_130 => ?_) (fun c_130 => ?_)
      · have c_130 := (nc_le (by omega) (by omega) c_130)
        have hf8 : f = 8 := by omega
        subst hf8
        refine lv_aload_n hx hb dL_found_155 rfl (lv_at hl 0 rfl) ?_
        refine lv_iconst (v := (nI 2)) hx hb dL_found_156 (by decide) ?_
        refine lv_bipush (v := (nI 8)) hx hb dL_found_157 (by decide) ?_
        refine lv_iconst (v := (nI 0)) hx hb dL_found_159 (by decide) ?_
        refine lv_iconst (v := (nI 0)) hx hb dL_found_160 (by decide) ?_
        obtain ⟨hP, hD⟩ := sw_PD (L := []) (M := (fQ cy x a tr s0 s1 pa q σ n fl tx ln)) (T := (fQ cy x1 a1 t1 u1 v1 p1 r σ n fl tx ln)) hP hD
        refine wr_callS (pre := (fQ cy x1 a1 t1 u1 v1 p1 r σ n fl tx ln)) (wc := fQ cy x a tr s0 s1 pa q σ n fl tx ln) (va_runS (As := [.ref (x 0), .int (nI 2), .int (nI 8), .int (nI 0), .int (nI 0)]) (rest := []) ⟨hx, hb, hml, hown, hts⟩ (c_L_call_2 l hfl g cy x a tr s0 s1 pa H.size bd q σ Hh n K fl tx ln (nI 8) (nI 0) (nI 0) hI ) ⟨(cB 5 hts wd9_11 wd5_14 wd9_9 rfl rfl (by decide +kernel) ⟨Nat.le_of_ble_eq_true rfl, Nat.le_of_ble_eq_true rfl⟩), hts _ wd9_10⟩ (ps2 (ws := (fQ cy x1 a1 t1 u1 v1 p1 r σ n fl tx ln) ++ fQ cy x a tr s0 s1 pa q σ n fl tx ln) hK hP hD hS hA hX hY _ nd_suffix at_suffix) rfl rfl hl.1 rfl (lv_room (Nat.le_of_ble_eq_true rfl)) dL_found_161 ⟨by show _ ≤ 60; omega, by show _ ≤ 360; omega⟩) hP hD hS hA (fun _ => fQ_ad) (fun q H locs hI hP hD hS => ?_)
        obtain ⟨hP, hD⟩ := sw_PD (L := []) (M := (fQ cy x1 a1 t1 u1 v1 p1 r σ n fl tx ln)) (T := (fQ cy x a tr s0 s1 pa q σ n fl tx ln)) hP hD
        have hP : va_P g vwCl (fQ cy x a tr s0 s1 pa q σ n fl tx ln ++ fQ cy x1 a1 t1 u1 v1 p1 r σ n fl tx ln) H := hP
        have hD : va_D A (fQ cy x a tr s0 s1 pa q σ n fl tx ln ++ fQ cy x1 a1 t1 u1 v1 p1 r σ n fl tx ln) := hD
        refine ti (show an (fAbo (nI 8)) (nI (nbd σ (nI 8).toNatClampNeg)) = (nI (ct (frd σ) (σ 1))) from (v_ab (w := 8) (by decide))) ?_
        show W _ _ _ _ _ _ _ _ _ _ _ _ _ _ _ (F0 mX 164 ls [.int (nI (ct (frd σ) (σ 1)))])
        refine lv_istore (lv' := [(14, .int (nI (ct (frd σ) (σ 1)))), (0, .ref (x 0)), (1, .ref (x1 0)), (2, .int (nI v)), (3, .int (nI d)), (4, .int (nI ((v / 6) % 8))), (5, .int (nI ((v / 48) % 8))), (6, .int (nI ((v / 384) % 12))), (7, .int (nI (shr σ d ((v / 6) % 8) ((v / 384) % 12) ((v / 48) % 8)))), (8, .int (nI (shr σ d ((v / 6) % 8) ((v / 384) % 12) ((v / 6) % 8)))), (9, .int (nI (σ (8 + ((v / 48) % 8))))), (10, .int (nI (σ 4))), (11, .int (nI (σ 5))), (12, .int (nI (dg σ d 4))), (13, .int (nI (sm (shr σ d ((v / 6) % 8) ((v / 384) % 12)) 8)))]) hx hb dL_found_164 hl (by decide) rfl (fun ls hl => ?_)
        refine lv_aload_n hx hb dL_found_166 rfl (lv_at hl 1 rfl) ?_
        refine lv_bipush (v := (nI 7)) hx hb dL_found_167 (by decide) ?_
        refine lv_iload_n hx hb dL_found_169 rfl (lv_at hl 4 rfl) ?_
        refine lv_iload hx hb dL_found_170 (lv_at hl 5 rfl) ?_
        refine lv_iload hx hb dL_found_172 (lv_at hl 7 rfl) ?_
        obtain ⟨hP, hD⟩ := sw_PD (L := []) (M := (fQ cy x a tr s0 s1 pa q σ n fl tx ln)) (T := (fQ cy x1 a1 t1 u1 v1 p1 r σ n fl tx ln)) hP hD
        refine wr_callS (pre := (fQ cy x1 a1 t1 u1 v1 p1 r σ n fl tx ln)) (wc := fQ cy x a tr s0 s1 pa q σ n fl tx ln) (va_runS (As := [.ref (x 0), .int (nI 7), .int (nI d), .int (nI ((v / 6) % 8)), .int (nI ((v / 384) % 12))]) (rest := []) ⟨hx, hb, hml, hown, hts⟩ (c_L_call_7 l hfl g cy x a tr s0 s1 pa H.size bd q σ Hh n K fl tx ln (nI d) (nI ((v / 6) % 8)) (nI ((v / 384) % 12)) hI ) ⟨(cB 5 hts wd9_11 wd5_14 wd9_9 rfl rfl (by decide +kernel) ⟨Nat.le_of_ble_eq_true rfl, Nat.le_of_ble_eq_true rfl⟩), hts _ wd9_10⟩ (ps2 (ws := (fQ cy x1 a1 t1 u1 v1 p1 r σ n fl tx ln) ++ fQ cy x a tr s0 s1 pa q σ n fl tx ln) hK hP hD hS hA hX hY _ nd_suffix at_suffix) rfl rfl hl.1 rfl (lv_room (Nat.le_of_ble_eq_true rfl)) dL_found_174 ⟨by show _ ≤ 60; omega, by show _ ≤ 360; omega⟩) hP hD hS hA (fun _ => fQ_ad) (fun q H locs hI hP hD hS => ?_)
        have h9 : fFind σ (nI d) (nI ((v / 6) % 8)) (nI ((v / 384) % 12)) = 0 := (by rw [fFind_in (by omega) (by omega), fAsk_in hn0 hd, hm9]; rfl)
        simp only [if_pos h9] at hI hP hD
        rw [show findR σ (nI d) (nI ((v / 6) % 8)) (nI ((v / 384) % 12)) = findS σ d ((v / 6) % 8) ((v / 384) % 12) from (findR_0 (by omega) (by omega) (by omega) h9).1] at hI hP hD
        obtain ⟨hP, hD⟩ := sw_PD (L := []) (M := (fQ cy x1 a1 t1 u1 v1 p1 r σ n fl tx ln)) (T := (fQ cy x a tr s0 s1 pa q (findS σ d ((v / 6) % 8) ((v / 384) % 12)) (hiN n) fl tx ln)) hP hD
        have hP : va_P g vwCl (fQ cy x a tr s0 s1 pa q (findS σ d ((v / 6) % 8) ((v / 384) % 12)) (hiN n) fl tx ln ++ fQ cy x1 a1 t1 u1 v1 p1 r σ n fl tx ln) H := hP
        have hD : va_D A (fQ cy x a tr s0 s1 pa q (findS σ d ((v / 6) % 8) ((v / 384) % 12)) (hiN n) fl tx ln ++ fQ cy x1 a1 t1 u1 v1 p1 r σ n fl tx ln) := hD
        refine ti (show an (fFind σ (nI d) (nI ((v / 6) % 8)) (nI ((v / 384) % 12))) (nI (findA σ (nI d) (nI ((v / 6) % 8)) (nI ((v / 384) % 12)))) = (nI (shr σ d ((v / 6) % 8) ((v / 384) % 12) ((v / 6) % 8))) from (by rw [an_0 h9, (findR_0 (by omega) (by omega) (by omega) h9).2])) ?_
        show W _ _ _ _ _ _ _ _ _ _ _ _ _ _ _ (F0 mX 177 ls [.int (nI (shr σ d ((v / 6) % 8) ((v / 384) % 12) ((v / 6) % 8)))])
        refine lv_iload hx hb dL_found_177 (lv_at hl 9 rfl) ?_
        refine lv_icmp_ne (tgt := 314) hx hb dL_found_179 (by decide) (fun c_179 => absurd rfl c_179) (fun _ => ?_)
        refine lv_aload_n hx hb dL_found_182 rfl (lv_at hl 2 rfl) ?_
        refine lv_bipush (v := (nI 7)) hx hb dL_found_183 (by decide) ?_
        refine lv_iload_n hx hb dL_found_185 rfl (lv_at hl 4 rfl) ?_
        refine lv_iload hx hb dL_found_186 (lv_at hl 5 rfl) ?_
        refine lv_iload hx hb dL_found_188 (lv_at hl 7 rfl) ?_
        refine wr_callS (pre := (fQ cy x a tr s0 s1 pa q (findS σ d ((v / 6) % 8) ((v / 384) % 12)) (hiN n) fl tx ln)) (wc := fQ cy x1 a1 t1 u1 v1 p1 r σ n fl tx ln) (va_runS (As := [.ref (x1 0), .int (nI 7), .int (nI d), .int (nI ((v / 6) % 8)), .int (nI ((v / 384) % 12))]) (rest := []) ⟨hx, hb, hml, hown, hts⟩ (c_L_call_7 l hfl g cy x1 a1 t1 u1 v1 p1 H.size bd r σ Hh n K fl tx ln (nI d) (nI ((v / 6) % 8)) (nI ((v / 384) % 12)) hJ ) ⟨(cB 5 hts wd9_11 wd5_14 wd9_9 rfl rfl (by decide +kernel) ⟨Nat.le_of_ble_eq_true rfl, Nat.le_of_ble_eq_true rfl⟩), hts _ wd9_10⟩ (ps2 (ws := (fQ cy x a tr s0 s1 pa q (findS σ d ((v / 6) % 8) ((v / 384) % 12)) (hiN n) fl tx ln) ++ fQ cy x1 a1 t1 u1 v1 p1 r σ n fl tx ln) hK hP hD hS hA hX hY _ nd_suffix at_suffix) rfl rfl hl.1 rfl (lv_room (Nat.le_of_ble_eq_true rfl)) dL_found_190 ⟨by show _ ≤ 60; omega, by show _ ≤ 360; omega⟩) hP hD hS hA (fun _ => fQ_ad) (fun r H locs hJ hP hD hS => ?_)
        have h9 : fFind σ (nI d) (nI ((v / 6) % 8)) (nI ((v / 384) % 12)) = 0 := (by rw [fFind_in (by omega) (by omega), fAsk_in hn0 hd, hm9]; rfl)
        simp only [if_pos h9] at hJ hP hD
        rw [show findR σ (nI d) (nI ((v / 6) % 8)) (nI ((v / 384) % 12)) = findS σ d ((v / 6) % 8) ((v / 384) % 12) from (findR_0 (by omega) (by omega) (by omega) h9).1] at hJ hP hD
        have hP : va_P g vwCl (fQ cy x a tr s0 s1 pa q (findS σ d ((v / 6) % 8) ((v / 384) % 12)) (hiN n) fl tx ln ++ fQ cy x1 a1 t1 u1 v1 p1 r (findS σ d ((v / 6) % 8) ((v / 384) % 12)) (hiN n) fl tx ln) H := hP
        have hD : va_D A (fQ cy x a tr s0 s1 pa q (findS σ d ((v / 6) % 8) ((v / 384) % 12)) (hiN n) fl tx ln ++ fQ cy x1 a1 t1 u1 v1 p1 r (findS σ d ((v / 6) % 8) ((v / 384) % 12)) (hiN n) fl tx ln) := hD
        refine ti (show an (fFind σ (nI d) (nI ((v / 6) % 8)) (nI ((v / 384) % 12))) (nI (findA σ (nI d) (nI ((v / 6) % 8)) (nI ((v / 384) % 12)))) = (nI (shr σ d ((v / 6) % 8) ((v / 384) % 12) ((v / 6) % 8))) from (by rw [an_0 h9, (findR_0 (by omega) (by omega) (by omega) h9).2])) ?_
        show W _ _ _ _ _ _ _ _ _ _ _ _ _ _ _ (F0 mX 193 ls [.int (nI (shr σ d ((v / 6) % 8) ((v / 384) % 12) ((v / 6) % 8)))])
        refine lv_iload hx hb dL_found_193 (lv_at hl 9 rfl) ?_
        refine lv_icmp_ne (tgt := 314) hx hb dL_found_195 (by decide) (fun c_195 => absurd rfl c_195) (fun _ => ?_)
        have hWt := fI_wf hI
        refine lv_aload_n hx hb dL_found_198 rfl (lv_at hl 1 rfl) ?_
        refine lv_iconst (v := (nI 5)) hx hb dL_found_199 (by decide) ?_
        refine lv_iload hx hb dL_found_200 (lv_at hl 6 rfl) ?_
        refine lv_iconst (v := (nI 0)) hx hb dL_found_202 (by decide) ?_
        refine lv_iconst (v := (nI 0)) hx hb dL_found_203 (by decide) ?_
        obtain ⟨hP, hD⟩ := sw_PD (L := []) (M := (fQ cy x a tr s0 s1 pa q (findS σ d ((v / 6) % 8) ((v / 384) % 12)) (hiN n) fl tx ln)) (T := (fQ cy x1 a1 t1 u1 v1 p1 r (findS σ d ((v / 6) % 8) ((v / 384) % 12)) (hiN n) fl tx ln)) hP hD
        refine wr_callS (pre := (fQ cy x1 a1 t1 u1 v1 p1 r (findS σ d ((v / 6) % 8) ((v / 384) % 12)) (hiN n) fl tx ln)) (wc := fQ cy x a tr s0 s1 pa q (findS σ d ((v / 6) % 8) ((v / 384) % 12)) (hiN n) fl tx ln) (va_runS (As := [.ref (x 0), .int (nI 5), .int (nI ((v / 48) % 8)), .int (nI 0), .int (nI 0)]) (rest := []) ⟨hx, hb, hml, hown, hts⟩ (c_L_call_5 l hfl g cy x a tr s0 s1 pa H.size bd q (findS σ d ((v / 6) % 8) ((v / 384) % 12)) (hiH Hh n σ) (hiN n) K fl tx ln (nI ((v / 48) % 8)) (nI 0) (nI 0) hI ) ⟨(cB 5 hts wd9_11 wd5_14 wd9_9 rfl rfl (by decide +kernel) ⟨Nat.le_of_ble_eq_true rfl, Nat.le_of_ble_eq_true rfl⟩), hts _ wd9_10⟩ (ps2 (ws := (fQ cy x1 a1 t1 u1 v1 p1 r (findS σ d ((v / 6) % 8) ((v / 384) % 12)) (hiN n) fl tx ln) ++ fQ cy x a tr s0 s1 pa q (findS σ d ((v / 6) % 8) ((v / 384) % 12)) (hiN n) fl tx ln) hK hP hD hS hA hX hY _ nd_suffix at_suffix) rfl rfl hl.1 rfl (lv_room (Nat.le_of_ble_eq_true rfl)) dL_found_204 ⟨by show _ ≤ 60; omega, by show _ ≤ 360; omega⟩) hP hD hS hA (fun _ => fQ_ad) (fun q H locs hI hP hD hS => ?_)
        obtain ⟨hP, hD⟩ := sw_PD (L := []) (M := (fQ cy x1 a1 t1 u1 v1 p1 r (findS σ d ((v / 6) % 8) ((v / 384) % 12)) (hiN n) fl tx ln)) (T := (fQ cy x a tr s0 s1 pa q (findS σ d ((v / 6) % 8) ((v / 384) % 12)) (hiN n) fl tx ln)) hP hD
        have hP : va_P g vwCl (fQ cy x a tr s0 s1 pa q (findS σ d ((v / 6) % 8) ((v / 384) % 12)) (hiN n) fl tx ln ++ fQ cy x1 a1 t1 u1 v1 p1 r (findS σ d ((v / 6) % 8) ((v / 384) % 12)) (hiN n) fl tx ln) H := hP
        have hD : va_D A (fQ cy x a tr s0 s1 pa q (findS σ d ((v / 6) % 8) ((v / 384) % 12)) (hiN n) fl tx ln ++ fQ cy x1 a1 t1 u1 v1 p1 r (findS σ d ((v / 6) % 8) ((v / 384) % 12)) (hiN n) fl tx ln) := hD
        refine ti (show an (fPur (nI ((v / 48) % 8))) (nI ((findS σ d ((v / 6) % 8) ((v / 384) % 12)) (8 + (nI ((v / 48) % 8)).toNatClampNeg))) = (nI ((findS σ d ((v / 6) % 8) ((v / 384) % 12)) (8 + ((v / 48) % 8)))) from (v_pu (by omega))) ?_
        show W _ _ _ _ _ _ _ _ _ _ _ _ _ _ _ (F0 mX 207 ls [.int (nI ((findS σ d ((v / 6) % 8) ((v / 384) % 12)) (8 + ((v / 48) % 8))))])
        refine ti (show (nI ((findS σ d ((v / 6) % 8) ((v / 384) % 12)) (8 + ((v / 48) % 8)))) = (nI ((σ (8 + ((v / 48) % 8))) + (shr σ d ((v / 6) % 8) ((v / 384) % 12) ((v / 48) % 8)))) from (congrArg nI (findS_pu (by omega)))) ?_
        refine lv_iload hx hb dL_found_207 (lv_at hl 10 rfl) ?_
        refine lv_iload hx hb dL_found_209 (lv_at hl 8 rfl) ?_
        refine lv_iadd hx hb dL_found_211 ?_
        refine ti (nI_add (σ (8 + ((v / 48) % 8))) (shr σ d ((v / 6) % 8) ((v / 384) % 12) ((v / 48) % 8))) ?_
        refine lv_icmp_ne (tgt := 314) hx hb dL_found_212 (by decide) (fun c_212 => absurd rfl c_212) (fun _ => ?_)
        refine lv_aload_n hx hb dL_found_215 rfl (lv_at hl 1 rfl) ?_
        refine lv_iconst (v := (nI 2)) hx hb dL_found_216 (by decide) ?_
        refine lv_iconst (v := (nI 5)) hx hb dL_found_217 (by decide) ?_
        refine lv_iconst (v := (nI 0)) hx hb dL_found_218 (by decide) ?_
        refine lv_iconst (v := (nI 0)) hx hb dL_found_219 (by decide) ?_
        obtain ⟨hP, hD⟩ := sw_PD (L := []) (M := (fQ cy x a tr s0 s1 pa q (findS σ d ((v / 6) % 8) ((v / 384) % 12)) (hiN n) fl tx ln)) (T := (fQ cy x1 a1 t1 u1 v1 p1 r (findS σ d ((v / 6) % 8) ((v / 384) % 12)) (hiN n) fl tx ln)) hP hD
        refine wr_callS (pre := (fQ cy x1 a1 t1 u1 v1 p1 r (findS σ d ((v / 6) % 8) ((v / 384) % 12)) (hiN n) fl tx ln)) (wc := fQ cy x a tr s0 s1 pa q (findS σ d ((v / 6) % 8) ((v / 384) % 12)) (hiN n) fl tx ln) (va_runS (As := [.ref (x 0), .int (nI 2), .int (nI 5), .int (nI 0), .int (nI 0)]) (rest := []) ⟨hx, hb, hml, hown, hts⟩ (c_L_call_2 l hfl g cy x a tr s0 s1 pa H.size bd q (findS σ d ((v / 6) % 8) ((v / 384) % 12)) (hiH Hh n σ) (hiN n) K fl tx ln (nI 5) (nI 0) (nI 0) hI ) ⟨(cB 5 hts wd9_11 wd5_14 wd9_9 rfl rfl (by decide +kernel) ⟨Nat.le_of_ble_eq_true rfl, Nat.le_of_ble_eq_true rfl⟩), hts _ wd9_10⟩ (ps2 (ws := (fQ cy x1 a1 t1 u1 v1 p1 r (findS σ d ((v / 6) % 8) ((v / 384) % 12)) (hiN n) fl tx ln) ++ fQ cy x a tr s0 s1 pa q (findS σ d ((v / 6) % 8) ((v / 384) % 12)) (hiN n) fl tx ln) hK hP hD hS hA hX hY _ nd_suffix at_suffix) rfl rfl hl.1 rfl (lv_room (Nat.le_of_ble_eq_true rfl)) dL_found_220 ⟨by show _ ≤ 60; omega, by show _ ≤ 360; omega⟩) hP hD hS hA (fun _ => fQ_ad) (fun q H locs hI hP hD hS => ?_)
        obtain ⟨hP, hD⟩ := sw_PD (L := []) (M := (fQ cy x1 a1 t1 u1 v1 p1 r (findS σ d ((v / 6) % 8) ((v / 384) % 12)) (hiN n) fl tx ln)) (T := (fQ cy x a tr s0 s1 pa q (findS σ d ((v / 6) % 8) ((v / 384) % 12)) (hiN n) fl tx ln)) hP hD
        have hP : va_P g vwCl (fQ cy x a tr s0 s1 pa q (findS σ d ((v / 6) % 8) ((v / 384) % 12)) (hiN n) fl tx ln ++ fQ cy x1 a1 t1 u1 v1 p1 r (findS σ d ((v / 6) % 8) ((v / 384) % 12)) (hiN n) fl tx ln) H := hP
        have hD : va_D A (fQ cy x a tr s0 s1 pa q (findS σ d ((v / 6) % 8) ((v / 384) % 12)) (hiN n) fl tx ln ++ fQ cy x1 a1 t1 u1 v1 p1 r (findS σ d ((v / 6) % 8) ((v / 384) % 12)) (hiN n) fl tx ln) := hD
        refine ti (show an (fAbo (nI 5)) (nI (nbd (findS σ d ((v / 6) % 8) ((v / 384) % 12)) (nI 5).toNatClampNeg)) = (nI ((findS σ d ((v / 6) % 8) ((v / 384) % 12)) 4)) from (v_ab (w := 5) (by decide))) ?_
        show W _ _ _ _ _ _ _ _ _ _ _ _ _ _ _ (F0 mX 223 ls [.int (nI ((findS σ d ((v / 6) % 8) ((v / 384) % 12)) 4))])
        refine ti (show (nI ((findS σ d ((v / 6) % 8) ((v / 384) % 12)) 4)) = (nI ((σ 4) + (sm (shr σ d ((v / 6) % 8) ((v / 384) % 12)) 8))) from rfl) ?_
        refine lv_iload hx hb dL_found_223 (lv_at hl 11 rfl) ?_
        refine lv_iload hx hb dL_found_225 (lv_at hl 14 rfl) ?_
        refine lv_iadd hx hb dL_found_227 ?_
        refine ti (nI_add (σ 4) (sm (shr σ d ((v / 6) % 8) ((v / 384) % 12)) 8)) ?_
        refine lv_icmp_ne (tgt := 314) hx hb dL_found_228 (by decide) (fun c_228 => absurd rfl c_228) (fun _ => ?_)
        refine lv_aload_n hx hb dL_found_231 rfl (lv_at hl 1 rfl) ?_
        refine lv_iconst (v := (nI 2)) hx hb dL_found_232 (by decide) ?_
        refine lv_bipush (v := (nI 6)) hx hb dL_found_233 (by decide) ?_
        refine lv_iconst (v := (nI 0)) hx hb dL_found_235 (by decide) ?_
        refine lv_iconst (v := (nI 0)) hx hb dL_found_236 (by decide) ?_
        obtain ⟨hP, hD⟩ := sw_PD (L := []) (M := (fQ cy x a tr s0 s1 pa q (findS σ d ((v / 6) % 8) ((v / 384) % 12)) (hiN n) fl tx ln)) (T := (fQ cy x1 a1 t1 u1 v1 p1 r (findS σ d ((v / 6) % 8) ((v / 384) % 12)) (hiN n) fl tx ln)) hP hD
        refine wr_callS (pre := (fQ cy x1 a1 t1 u1 v1 p1 r (findS σ d ((v / 6) % 8) ((v / 384) % 12)) (hiN n) fl tx ln)) (wc := fQ cy x a tr s0 s1 pa q (findS σ d ((v / 6) % 8) ((v / 384) % 12)) (hiN n) fl tx ln) (va_runS (As := [.ref (x 0), .int (nI 2), .int (nI 6), .int (nI 0), .int (nI 0)]) (rest := []) ⟨hx, hb, hml, hown, hts⟩ (c_L_call_2 l hfl g cy x a tr s0 s1 pa H.size bd q (findS σ d ((v / 6) % 8) ((v / 384) % 12)) (hiH Hh n σ) (hiN n) K fl tx ln (nI 6) (nI 0) (nI 0) hI ) ⟨(cB 5 hts wd9_11 wd5_14 wd9_9 rfl rfl (by decide +kernel) ⟨Nat.le_of_ble_eq_true rfl, Nat.le_of_ble_eq_true rfl⟩), hts _ wd9_10⟩ (ps2 (ws := (fQ cy x1 a1 t1 u1 v1 p1 r (findS σ d ((v / 6) % 8) ((v / 384) % 12)) (hiN n) fl tx ln) ++ fQ cy x a tr s0 s1 pa q (findS σ d ((v / 6) % 8) ((v / 384) % 12)) (hiN n) fl tx ln) hK hP hD hS hA hX hY _ nd_suffix at_suffix) rfl rfl hl.1 rfl (lv_room (Nat.le_of_ble_eq_true rfl)) dL_found_237 ⟨by show _ ≤ 60; omega, by show _ ≤ 360; omega⟩) hP hD hS hA (fun _ => fQ_ad) (fun q H locs hI hP hD hS => ?_)
        obtain ⟨hP, hD⟩ := sw_PD (L := []) (M := (fQ cy x1 a1 t1 u1 v1 p1 r (findS σ d ((v / 6) % 8) ((v / 384) % 12)) (hiN n) fl tx ln)) (T := (fQ cy x a tr s0 s1 pa q (findS σ d ((v / 6) % 8) ((v / 384) % 12)) (hiN n) fl tx ln)) hP hD
        have hP : va_P g vwCl (fQ cy x a tr s0 s1 pa q (findS σ d ((v / 6) % 8) ((v / 384) % 12)) (hiN n) fl tx ln ++ fQ cy x1 a1 t1 u1 v1 p1 r (findS σ d ((v / 6) % 8) ((v / 384) % 12)) (hiN n) fl tx ln) H := hP
        have hD : va_D A (fQ cy x a tr s0 s1 pa q (findS σ d ((v / 6) % 8) ((v / 384) % 12)) (hiN n) fl tx ln ++ fQ cy x1 a1 t1 u1 v1 p1 r (findS σ d ((v / 6) % 8) ((v / 384) % 12)) (hiN n) fl tx ln) := hD
        refine ti (show an (fAbo (nI 6)) (nI (nbd (findS σ d ((v / 6) % 8) ((v / 384) % 12)) (nI 6).toNatClampNeg)) = (nI ((findS σ d ((v / 6) % 8) ((v / 384) % 12)) 5)) from (v_ab (w := 6) (by decide))) ?_
        show W _ _ _ _ _ _ _ _ _ _ _ _ _ _ _ (F0 mX 240 ls [.int (nI ((findS σ d ((v / 6) % 8) ((v / 384) % 12)) 5))])
        refine ti (show (nI ((findS σ d ((v / 6) % 8) ((v / 384) % 12)) 5)) = (nI (((σ 5) + (dg σ d 4)) - (sm (shr σ d ((v / 6) % 8) ((v / 384) % 12)) 8))) from (congrArg nI (show σ 5 + (dg σ d 4 - sm (shr σ d ((v / 6) % 8) ((v / 384) % 12)) 8) = σ 5 + dg σ d 4 - sm (shr σ d ((v / 6) % 8) ((v / 384) % 12)) 8 by omega))) ?_
        refine lv_iload hx hb dL_found_240 (lv_at hl 12 rfl) ?_
        refine lv_iload hx hb dL_found_242 (lv_at hl 13 rfl) ?_
        refine lv_iadd hx hb dL_found_244 ?_
        refine ti (nI_add (σ 5) (dg σ d 4)) ?_
        refine lv_iload hx hb dL_found_245 (lv_at hl 14 rfl) ?_
        refine lv_isub hx hb dL_found_247 ?_
        refine ti (pk_sub (a := ((σ 5) + (dg σ d 4))) (b := (sm (shr σ d ((v / 6) % 8) ((v / 384) % 12)) 8)) (by omega)) ?_
        refine lv_icmp_ne (tgt := 314) hx hb dL_found_248 (by decide) (fun c_248 => absurd rfl c_248) (fun _ => ?_)
        refine lv_iload hx hb dL_found_251 (lv_at hl 14 rfl) ?_
        refine lv_iload hx hb dL_found_253 (lv_at hl 13 rfl) ?_
        refine lv_icmp_gt (tgt := 314) hx hb dL_found_255 (by decide) (fun c_255 => ?_) (fun c_255 => ?_)
        · have c_255 := (nc_lt (by omega) (by omega) c_255)
          omega
        · have c_255 := (nc_nlt (by omega) (by omega) c_255)
          refine lv_iload hx hb dL_found_258 (lv_at hl 13 rfl) ?_
          refine lv_iload hx hb dL_found_260 (lv_at hl 14 rfl) ?_
          refine lv_isub hx hb dL_found_262 ?_
          refine ti (pk_sub (a := (dg σ d 4)) (b := (sm (shr σ d ((v / 6) % 8) ((v / 384) % 12)) 8)) (by omega)) ?_
          refine lv_bipush (v := (nI 8)) hx hb dL_found_263 (by decide) ?_
          refine lv_icmp_ge (tgt := 314) hx hb dL_found_265 (by decide) (fun c_265 => ?_) (fun c_265 => ?_)
          · have c_265 := (nc_le (by omega) (by omega) c_265)
            omega
          · have c_265 := (nc_nle (by omega) (by omega) c_265)
            refine lv_aload_n hx hb dL_found_268 rfl (lv_at hl 1 rfl) ?_
            refine lv_iconst (v := (nI 3)) hx hb dL_found_269 (by decide) ?_
            refine lv_iload_n hx hb dL_found_270 rfl (lv_at hl 4 rfl) ?_
            refine lv_bipush (v := (nI 8)) hx hb dL_found_271 (by decide) ?_
            refine lv_iconst (v := (nI 0)) hx hb dL_found_273 (by decide) ?_
            obtain ⟨hP, hD⟩ := sw_PD (L := []) (M := (fQ cy x a tr s0 s1 pa q (findS σ d ((v / 6) % 8) ((v / 384) % 12)) (hiN n) fl tx ln)) (T := (fQ cy x1 a1 t1 u1 v1 p1 r (findS σ d ((v / 6) % 8) ((v / 384) % 12)) (hiN n) fl tx ln)) hP hD
            refine wr_callS (pre := (fQ cy x1 a1 t1 u1 v1 p1 r (findS σ d ((v / 6) % 8) ((v / 384) % 12)) (hiN n) fl tx ln)) (wc := fQ cy x a tr s0 s1 pa q (findS σ d ((v / 6) % 8) ((v / 384) % 12)) (hiN n) fl tx ln) (va_runS (As := [.ref (x 0), .int (nI 3), .int (nI d), .int (nI 8), .int (nI 0)]) (rest := []) ⟨hx, hb, hml, hown, hts⟩ (c_L_call_3 l hfl g cy x a tr s0 s1 pa H.size bd q (findS σ d ((v / 6) % 8) ((v / 384) % 12)) (hiH Hh n σ) (hiN n) K fl tx ln (nI d) (nI 8) (nI 0) hI ) ⟨(cB 5 hts wd9_11 wd5_14 wd9_9 rfl rfl (by decide +kernel) ⟨Nat.le_of_ble_eq_true rfl, Nat.le_of_ble_eq_true rfl⟩), hts _ wd9_10⟩ (ps2 (ws := (fQ cy x1 a1 t1 u1 v1 p1 r (findS σ d ((v / 6) % 8) ((v / 384) % 12)) (hiN n) fl tx ln) ++ fQ cy x a tr s0 s1 pa q (findS σ d ((v / 6) % 8) ((v / 384) % 12)) (hiN n) fl tx ln) hK hP hD hS hA hX hY _ nd_suffix at_suffix) rfl rfl hl.1 rfl (lv_room (Nat.le_of_ble_eq_true rfl)) dL_found_274 ⟨by show _ ≤ 60; omega, by show _ ≤ 360; omega⟩) hP hD hS hA (fun _ => fQ_ad) (fun q H locs hI hP hD hS => ?_)
            obtain ⟨hP, hD⟩ := sw_PD (L := []) (M := (fQ cy x1 a1 t1 u1 v1 p1 r (findS σ d ((v / 6) % 8) ((v / 384) % 12)) (hiN n) fl tx ln)) (T := (fQ cy x a tr s0 s1 pa q (findS σ d ((v / 6) % 8) ((v / 384) % 12)) (hiN n) fl tx ln)) hP hD
            have hP : va_P g vwCl (fQ cy x a tr s0 s1 pa q (findS σ d ((v / 6) % 8) ((v / 384) % 12)) (hiN n) fl tx ln ++ fQ cy x1 a1 t1 u1 v1 p1 r (findS σ d ((v / 6) % 8) ((v / 384) % 12)) (hiN n) fl tx ln) H := hP
            have hD : va_D A (fQ cy x a tr s0 s1 pa q (findS σ d ((v / 6) % 8) ((v / 384) % 12)) (hiN n) fl tx ln ++ fQ cy x1 a1 t1 u1 v1 p1 r (findS σ d ((v / 6) % 8) ((v / 384) % 12)) (hiN n) fl tx ln) := hD
            refine ti (show an (fDog (findS σ d ((v / 6) % 8) ((v / 384) % 12)) (nI d) (nI 8)) (nI (ndg (findS σ d ((v / 6) % 8) ((v / 384) % 12)) (nI d).toNatClampNeg (nI 8).toNatClampNeg)) = (nI (dg (findS σ d ((v / 6) % 8) ((v / 384) % 12)) d 5)) from (v_dg (w := 8) hWt.n0 hd (by decide))) ?_
            show W _ _ _ _ _ _ _ _ _ _ _ _ _ _ _ (F0 mX 277 ls [.int (nI (dg (findS σ d ((v / 6) % 8) ((v / 384) % 12)) d 5))])
            refine ti (show (nI (dg (findS σ d ((v / 6) % 8) ((v / 384) % 12)) d 5)) = (nI ((v / 384) % 12)) from (congrArg nI (by rw [findS_dg (by omega) (by decide), if_pos rfl]; rfl))) ?_
            refine lv_iload hx hb dL_found_277 (lv_at hl 7 rfl) ?_
            refine lv_icmp_ne (tgt := 314) hx hb dL_found_279 (by decide) (fun c_279 => absurd rfl c_279) (fun _ => ?_)
            refine lv_aload_n hx hb dL_found_282 rfl (lv_at hl 1 rfl) ?_
            refine lv_iconst (v := (nI 3)) hx hb dL_found_283 (by decide) ?_
            refine lv_iload_n hx hb dL_found_284 rfl (lv_at hl 4 rfl) ?_
            refine lv_bipush (v := (nI 9)) hx hb dL_found_285 (by decide) ?_
            refine lv_iconst (v := (nI 0)) hx hb dL_found_287 (by decide) ?_
            obtain ⟨hP, hD⟩ := sw_PD (L := []) (M := (fQ cy x a tr s0 s1 pa q (findS σ d ((v / 6) % 8) ((v / 384) % 12)) (hiN n) fl tx ln)) (T := (fQ cy x1 a1 t1 u1 v1 p1 r (findS σ d ((v / 6) % 8) ((v / 384) % 12)) (hiN n) fl tx ln)) hP hD
            refine wr_callS (pre := (fQ cy x1 a1 t1 u1 v1 p1 r (findS σ d ((v / 6) % 8) ((v / 384) % 12)) (hiN n) fl tx ln)) (wc := fQ cy x a tr s0 s1 pa q (findS σ d ((v / 6) % 8) ((v / 384) % 12)) (hiN n) fl tx ln) (va_runS (As := [.ref (x 0), .int (nI 3), .int (nI d), .int (nI 9), .int (nI 0)]) (rest := []) ⟨hx, hb, hml, hown, hts⟩ (c_L_call_3 l hfl g cy x a tr s0 s1 pa H.size bd q (findS σ d ((v / 6) % 8) ((v / 384) % 12)) (hiH Hh n σ) (hiN n) K fl tx ln (nI d) (nI 9) (nI 0) hI ) ⟨(cB 5 hts wd9_11 wd5_14 wd9_9 rfl rfl (by decide +kernel) ⟨Nat.le_of_ble_eq_true rfl, Nat.le_of_ble_eq_true rfl⟩), hts _ wd9_10⟩ (ps2 (ws := (fQ cy x1 a1 t1 u1 v1 p1 r (findS σ d ((v / 6) % 8) ((v / 384) % 12)) (hiN n) fl tx ln) ++ fQ cy x a tr s0 s1 pa q (findS σ d ((v / 6) % 8) ((v / 384) % 12)) (hiN n) fl tx ln) hK hP hD hS hA hX hY _ nd_suffix at_suffix) rfl rfl hl.1 rfl (lv_room (Nat.le_of_ble_eq_true rfl)) dL_found_288 ⟨by show _ ≤ 60; omega, by show _ ≤ 360; omega⟩) hP hD hS hA (fun _ => fQ_ad) (fun q H locs hI hP hD hS => ?_)
            obtain ⟨hP, hD⟩ := sw_PD (L := []) (M := (fQ cy x1 a1 t1 u1 v1 p1 r (findS σ d ((v / 6) % 8) ((v / 384) % 12)) (hiN n) fl tx ln)) (T := (fQ cy x a tr s0 s1 pa q (findS σ d ((v / 6) % 8) ((v / 384) % 12)) (hiN n) fl tx ln)) hP hD
            have hP : va_P g vwCl (fQ cy x a tr s0 s1 pa q (findS σ d ((v / 6) % 8) ((v / 384) % 12)) (hiN n) fl tx ln ++ fQ cy x1 a1 t1 u1 v1 p1 r (findS σ d ((v / 6) % 8) ((v / 384) % 12)) (hiN n) fl tx ln) H := hP
            have hD : va_D A (fQ cy x a tr s0 s1 pa q (findS σ d ((v / 6) % 8) ((v / 384) % 12)) (hiN n) fl tx ln ++ fQ cy x1 a1 t1 u1 v1 p1 r (findS σ d ((v / 6) % 8) ((v / 384) % 12)) (hiN n) fl tx ln) := hD
            refine ti (show an (fDog (findS σ d ((v / 6) % 8) ((v / 384) % 12)) (nI d) (nI 9)) (nI (ndg (findS σ d ((v / 6) % 8) ((v / 384) % 12)) (nI d).toNatClampNeg (nI 9).toNatClampNeg)) = (nI (dg (findS σ d ((v / 6) % 8) ((v / 384) % 12)) d 6)) from (v_dg (w := 9) hWt.n0 hd (by decide))) ?_
            show W _ _ _ _ _ _ _ _ _ _ _ _ _ _ _ (F0 mX 291 ls [.int (nI (dg (findS σ d ((v / 6) % 8) ((v / 384) % 12)) d 6))])
            refine ti (show (nI (dg (findS σ d ((v / 6) % 8) ((v / 384) % 12)) d 6)) = (nI ((v / 6) % 8)) from (congrArg nI (by rw [findS_dg (by omega) (by decide), if_pos rfl]; rfl))) ?_
            refine lv_iload hx hb dL_found_291 (lv_at hl 5 rfl) ?_
            refine lv_icmp_ne (tgt := 314) hx hb dL_found_293 (by decide) (fun c_293 => absurd rfl c_293) (fun _ => ?_)
            refine lv_aload_n hx hb dL_found_296 rfl (lv_at hl 1 rfl) ?_
            refine lv_iconst (v := (nI 2)) hx hb dL_found_297 (by decide) ?_
            refine lv_bipush (v := (nI 8)) hx hb dL_found_298 (by decide) ?_
            refine lv_iconst (v := (nI 0)) hx hb dL_found_300 (by decide) ?_
            refine lv_iconst (v := (nI 0)) hx hb dL_found_301 (by decide) ?_
            obtain ⟨hP, hD⟩ := sw_PD (L := []) (M := (fQ cy x a tr s0 s1 pa q (findS σ d ((v / 6) % 8) ((v / 384) % 12)) (hiN n) fl tx ln)) (T := (fQ cy x1 a1 t1 u1 v1 p1 r (findS σ d ((v / 6) % 8) ((v / 384) % 12)) (hiN n) fl tx ln)) hP hD
            refine wr_callS (pre := (fQ cy x1 a1 t1 u1 v1 p1 r (findS σ d ((v / 6) % 8) ((v / 384) % 12)) (hiN n) fl tx ln)) (wc := fQ cy x a tr s0 s1 pa q (findS σ d ((v / 6) % 8) ((v / 384) % 12)) (hiN n) fl tx ln) (va_runS (As := [.ref (x 0), .int (nI 2), .int (nI 8), .int (nI 0), .int (nI 0)]) (rest := []) ⟨hx, hb, hml, hown, hts⟩ (c_L_call_2 l hfl g cy x a tr s0 s1 pa H.size bd q (findS σ d ((v / 6) % 8) ((v / 384) % 12)) (hiH Hh n σ) (hiN n) K fl tx ln (nI 8) (nI 0) (nI 0) hI ) ⟨(cB 5 hts wd9_11 wd5_14 wd9_9 rfl rfl (by decide +kernel) ⟨Nat.le_of_ble_eq_true rfl, Nat.le_of_ble_eq_true rfl⟩), hts _ wd9_10⟩ (ps2 (ws := (fQ cy x1 a1 t1 u1 v1 p1 r (findS σ d ((v / 6) % 8) ((v / 384) % 12)) (hiN n) fl tx ln) ++ fQ cy x a tr s0 s1 pa q (findS σ d ((v / 6) % 8) ((v / 384) % 12)) (hiN n) fl tx ln) hK hP hD hS hA hX hY _ nd_suffix at_suffix) rfl rfl hl.1 rfl (lv_room (Nat.le_of_ble_eq_true rfl)) dL_found_302 ⟨by show _ ≤ 60; omega, by show _ ≤ 360; omega⟩) hP hD hS hA (fun _ => fQ_ad) (fun q H locs hI hP hD hS => ?_)
            obtain ⟨hP, hD⟩ := sw_PD (L := []) (M := (fQ cy x1 a1 t1 u1 v1 p1 r (findS σ d ((v / 6) % 8) ((v / 384) % 12)) (hiN n) fl tx ln)) (T := (fQ cy x a tr s0 s1 pa q (findS σ d ((v / 6) % 8) ((v / 384) % 12)) (hiN n) fl tx ln)) hP hD
            have hP : va_P g vwCl (fQ cy x a tr s0 s1 pa q (findS σ d ((v / 6) % 8) ((v / 384) % 12)) (hiN n) fl tx ln ++ fQ cy x1 a1 t1 u1 v1 p1 r (findS σ d ((v / 6) % 8) ((v / 384) % 12)) (hiN n) fl tx ln) H := hP
            have hD : va_D A (fQ cy x a tr s0 s1 pa q (findS σ d ((v / 6) % 8) ((v / 384) % 12)) (hiN n) fl tx ln ++ fQ cy x1 a1 t1 u1 v1 p1 r (findS σ d ((v / 6) % 8) ((v / 384) % 12)) (hiN n) fl tx ln) := hD
            refine ti (show an (fAbo (nI 8)) (nI (nbd (findS σ d ((v / 6) % 8) ((v / 384) % 12)) (nI 8).toNatClampNeg)) = (nI (ct (frd (findS σ d ((v / 6) % 8) ((v / 384) % 12))) ((findS σ d ((v / 6) % 8) ((v / 384) % 12)) 1))) from (v_ab (w := 8) (by decide))) ?_
            show W _ _ _ _ _ _ _ _ _ _ _ _ _ _ _ (F0 mX 305 ls [.int (nI (ct (frd (findS σ d ((v / 6) % 8) ((v / 384) % 12))) ((findS σ d ((v / 6) % 8) ((v / 384) % 12)) 1)))])
            refine ti (show (nI (ct (frd (findS σ d ((v / 6) % 8) ((v / 384) % 12))) ((findS σ d ((v / 6) % 8) ((v / 384) % 12)) 1))) = (nI (ct (frd σ) (σ 1))) from (congrArg nI (fnd_frauds hW hd (by omega)))) ?_
            refine lv_iload hx hb dL_found_305 (lv_at hl 0 rfl) ?_
            refine lv_icmp_ne (tgt := 314) hx hb dL_found_307 (by decide) (fun c_307 => absurd rfl c_307) (fun _ => ?_)
            refine lv_iconst (v := (nI 1)) hx hb dL_found_310 (by decide) ?_
            refine lv_goto (tgt := 315) hx hb dL_found_311 (by decide) ?_
            refine lv_istore (lv' := [(15, .int (nI 1)), (14, .int (nI (ct (frd σ) (σ 1)))), (0, .ref (x 0)), (1, .ref (x1 0)), (2, .int (nI v)), (3, .int (nI d)), (4, .int (nI ((v / 6) % 8))), (5, .int (nI ((v / 48) % 8))), (6, .int (nI ((v / 384) % 12))), (7, .int (nI (shr σ d ((v / 6) % 8) ((v / 384) % 12) ((v / 48) % 8)))), (8, .int (nI (shr σ d ((v / 6) % 8) ((v / 384) % 12) ((v / 6) % 8)))), (9, .int (nI (σ (8 + ((v / 48) % 8))))), (10, .int (nI (σ 4))), (11, .int (nI (σ 5))), (12, .int (nI (dg σ d 4))), (13, .int (nI (sm (shr σ d ((v / 6) % 8) ((v / 384) % 12)) 8)))]) hx hb dL_found_315 hl (by decide) rfl (fun ls hl => ?_)
            refine lv_aload_n hx hb dL_found_317 rfl (lv_at hl 2 rfl) ?_
            refine lv_iconst (v := (nI 3)) hx hb dL_found_318 (by decide) ?_
            refine lv_iload_n hx hb dL_found_319 rfl (lv_at hl 5 rfl) ?_
            refine lv_bipush (v := (nI 7)) hx hb dL_found_320 (by decide) ?_
            refine lv_iconst (v := (nI 0)) hx hb dL_found_322 (by decide) ?_
            obtain ⟨hP, hD⟩ := sw_PD (L := []) (M := (fQ cy x a tr s0 s1 pa q (findS σ d ((v / 6) % 8) ((v / 384) % 12)) (hiN n) fl tx ln)) (T := (fQ cy x1 a1 t1 u1 v1 p1 r (findS σ d ((v / 6) % 8) ((v / 384) % 12)) (hiN n) fl tx ln)) hP hD
            refine wr_callS (pre := (fQ cy x1 a1 t1 u1 v1 p1 r (findS σ d ((v / 6) % 8) ((v / 384) % 12)) (hiN n) fl tx ln)) (wc := fQ cy x a tr s0 s1 pa q (findS σ d ((v / 6) % 8) ((v / 384) % 12)) (hiN n) fl tx ln) (va_runS (As := [.ref (x 0), .int (nI 3), .int (nI d), .int (nI 7), .int (nI 0)]) (rest := []) ⟨hx, hb, hml, hown, hts⟩ (c_L_call_3 l hfl g cy x a tr s0 s1 pa H.size bd q (findS σ d ((v / 6) % 8) ((v / 384) % 12)) (hiH Hh n σ) (hiN n) K fl tx ln (nI d) (nI 7) (nI 0) hI ) ⟨(cB 5 hts wd9_11 wd5_14 wd9_9 rfl rfl (by decide +kernel) ⟨Nat.le_of_ble_eq_true rfl, Nat.le_of_ble_eq_true rfl⟩), hts _ wd9_10⟩ (ps2 (ws := (fQ cy x1 a1 t1 u1 v1 p1 r (findS σ d ((v / 6) % 8) ((v / 384) % 12)) (hiN n) fl tx ln) ++ fQ cy x a tr s0 s1 pa q (findS σ d ((v / 6) % 8) ((v / 384) % 12)) (hiN n) fl tx ln) hK hP hD hS hA hX hY _ nd_suffix at_suffix) rfl rfl hl.1 rfl (lv_room (Nat.le_of_ble_eq_true rfl)) dL_found_323 ⟨by show _ ≤ 60; omega, by show _ ≤ 360; omega⟩) hP hD hS hA (fun _ => fQ_ad) (fun q H locs hI hP hD hS => ?_)
            obtain ⟨hP, hD⟩ := sw_PD (L := []) (M := (fQ cy x1 a1 t1 u1 v1 p1 r (findS σ d ((v / 6) % 8) ((v / 384) % 12)) (hiN n) fl tx ln)) (T := (fQ cy x a tr s0 s1 pa q (findS σ d ((v / 6) % 8) ((v / 384) % 12)) (hiN n) fl tx ln)) hP hD
            have hP : va_P g vwCl (fQ cy x a tr s0 s1 pa q (findS σ d ((v / 6) % 8) ((v / 384) % 12)) (hiN n) fl tx ln ++ fQ cy x1 a1 t1 u1 v1 p1 r (findS σ d ((v / 6) % 8) ((v / 384) % 12)) (hiN n) fl tx ln) H := hP
            have hD : va_D A (fQ cy x a tr s0 s1 pa q (findS σ d ((v / 6) % 8) ((v / 384) % 12)) (hiN n) fl tx ln ++ fQ cy x1 a1 t1 u1 v1 p1 r (findS σ d ((v / 6) % 8) ((v / 384) % 12)) (hiN n) fl tx ln) := hD
            refine ti (show an (fDog (findS σ d ((v / 6) % 8) ((v / 384) % 12)) (nI d) (nI 7)) (nI (ndg (findS σ d ((v / 6) % 8) ((v / 384) % 12)) (nI d).toNatClampNeg (nI 7).toNatClampNeg)) = (nI (ct (hon (findS σ d ((v / 6) % 8) ((v / 384) % 12)) d) ((findS σ d ((v / 6) % 8) ((v / 384) % 12)) 1))) from (v_dg (w := 7) hWt.n0 hd (by decide))) ?_
            show W _ _ _ _ _ _ _ _ _ _ _ _ _ _ _ (F0 mX 326 ls [.int (nI (ct (hon (findS σ d ((v / 6) % 8) ((v / 384) % 12)) d) ((findS σ d ((v / 6) % 8) ((v / 384) % 12)) 1)))])
            refine lv_istore (lv' := [(16, .int (nI (ct (hon (findS σ d ((v / 6) % 8) ((v / 384) % 12)) d) ((findS σ d ((v / 6) % 8) ((v / 384) % 12)) 1)))), (15, .int (nI 1)), (14, .int (nI (ct (frd σ) (σ 1)))), (0, .ref (x 0)), (1, .ref (x1 0)), (2, .int (nI v)), (3, .int (nI d)), (4, .int (nI ((v / 6) % 8))), (5, .int (nI ((v / 48) % 8))), (6, .int (nI ((v / 384) % 12))), (7, .int (nI (shr σ d ((v / 6) % 8) ((v / 384) % 12) ((v / 48) % 8)))), (8, .int (nI (shr σ d ((v / 6) % 8) ((v / 384) % 12) ((v / 6) % 8)))), (9, .int (nI (σ (8 + ((v / 48) % 8))))), (10, .int (nI (σ 4))), (11, .int (nI (σ 5))), (12, .int (nI (dg σ d 4))), (13, .int (nI (sm (shr σ d ((v / 6) % 8) ((v / 384) % 12)) 8)))]) hx hb dL_found_326 hl (by decide) rfl (fun ls hl => ?_)
            refine lv_iload_n hx hb dL_found_328 rfl (lv_at hl 5 rfl) ?_
            refine lv_sipush (v := (nI 4608)) hx hb dL_found_329 (by decide) ?_
            refine lv_idiv hx hb dL_found_332 (nI_ne0 (by omega) (by omega)) ?_
            refine ti (pk_div (a := v) (d := 4608) (by omega) (by omega) (by omega)) ?_
            refine lv_bipush (v := (nI 8)) hx hb dL_found_333 (by decide) ?_
            refine lv_irem hx hb dL_found_335 (nI_ne0 (by omega) (by omega)) ?_
            refine ti (pk_rem (a := (v / 4608)) (d := 8) (by omega) (by omega) (by omega)) ?_
            refine lv_istore (lv' := [(17, .int (nI ((v / 4608) % 8))), (16, .int (nI (ct (hon (findS σ d ((v / 6) % 8) ((v / 384) % 12)) d) ((findS σ d ((v / 6) % 8) ((v / 384) % 12)) 1)))), (15, .int (nI 1)), (14, .int (nI (ct (frd σ) (σ 1)))), (0, .ref (x 0)), (1, .ref (x1 0)), (2, .int (nI v)), (3, .int (nI d)), (4, .int (nI ((v / 6) % 8))), (5, .int (nI ((v / 48) % 8))), (6, .int (nI ((v / 384) % 12))), (7, .int (nI (shr σ d ((v / 6) % 8) ((v / 384) % 12) ((v / 48) % 8)))), (8, .int (nI (shr σ d ((v / 6) % 8) ((v / 384) % 12) ((v / 6) % 8)))), (9, .int (nI (σ (8 + ((v / 48) % 8))))), (10, .int (nI (σ 4))), (11, .int (nI (σ 5))), (12, .int (nI (dg σ d 4))), (13, .int (nI (sm (shr σ d ((v / 6) % 8) ((v / 384) % 12)) 8)))]) hx hb dL_found_336 hl (by decide) rfl (fun ls hl => ?_)
            refine lv_iload hx hb dL_found_338 (lv_at hl 2 rfl) ?_
            refine lv_if_eq (tgt := 408) hx hb dL_found_340 (by decide) (fun c9 => absurd c9 (by decide)) (fun _ => ?_)
            refine lv_aload_n hx hb dL_found_343 rfl (lv_at hl 4 rfl) ?_
            refine lv_iload hx hb dL_found_344 (lv_at hl 0 rfl) ?_
            refine lv_iload hx hb dL_found_346 (lv_at hl 0 rfl) ?_
            refine lv_iconst (v := (nI 4)) hx hb dL_found_348 (by decide) ?_
            refine lv_iadd hx hb dL_found_349 ?_
            refine ti (nI_add ((v / 4608) % 8) 4) ?_
            refine lv_iconst (v := (nI 1)) hx hb dL_found_350 (by decide) ?_
            refine ti (show (nI 1) = (bI true) from rfl) ?_
            obtain ⟨hP, hD⟩ := sw_PD (L := []) (M := (fQ cy x a tr s0 s1 pa q (findS σ d ((v / 6) % 8) ((v / 384) % 12)) (hiN n) fl tx ln)) (T := (fQ cy x1 a1 t1 u1 v1 p1 r (findS σ d ((v / 6) % 8) ((v / 384) % 12)) (hiN n) fl tx ln)) hP hD
            refine wr_callS (pre := (fQ cy x1 a1 t1 u1 v1 p1 r (findS σ d ((v / 6) % 8) ((v / 384) % 12)) (hiN n) fl tx ln)) (wc := fQ cy x a tr s0 s1 pa q (findS σ d ((v / 6) % 8) ((v / 384) % 12)) (hiN n) fl tx ln) (vx_runSW (hh := [(0, 7, 8, 13), (0, 7, 13, 16)]) (As := [.ref (x 0), .int (nI ((v / 4608) % 8)), .int (nI (((v / 4608) % 8) + 4)), .int (bI true)]) (rest := []) ⟨hx, hb, hml, hown, hts⟩ (c_L_closes l hfl g cy x a tr s0 s1 pa H.size bd q (findS σ d ((v / 6) % 8) ((v / 384) % 12)) (hiH Hh n σ) (hiN n) K fl tx ln (nI ((v / 4608) % 8)) (nI (((v / 4608) % 8) + 4)) true hI ) (vx_cwSW 4 hts (hl_in wd26_0 wd5_14 wd25_22 wd25_23) rfl rfl rfl (by decide +kernel) ⟨Nat.le_of_ble_eq_true rfl, Nat.le_of_ble_eq_true rfl⟩) (ps2 (ws := (fQ cy x1 a1 t1 u1 v1 p1 r (findS σ d ((v / 6) % 8) ((v / 384) % 12)) (hiN n) fl tx ln) ++ fQ cy x a tr s0 s1 pa q (findS σ d ((v / 6) % 8) ((v / 384) % 12)) (hiN n) fl tx ln) hK hP hD hS hA hX hY _ nd_suffix at_suffix) rfl rfl hl.1 rfl (lv_room (Nat.le_of_ble_eq_true rfl)) dL_found_351 ⟨by show _ ≤ 60; omega, by show _ ≤ 360; omega⟩) hP hD hS hA (fun _ => fQ_ad) (fun q H locs hI hP hD hS => ?_)
            have h9 : fClose (nI ((v / 4608) % 8)) (nI (((v / 4608) % 8) + 4)) = 0 := (by rw [fClose_in (by omega) (by omega), if_neg (sbt_a4 _ (by omega))])
            simp only [if_pos h9] at hI hP hD
            rw [show closeR (findS σ d ((v / 6) % 8) ((v / 384) % 12)) (nI ((v / 4608) % 8)) (nI (((v / 4608) % 8) + 4)) true = clS (findS σ d ((v / 6) % 8) ((v / 384) % 12)) (sbt ((v / 4608) % 8) (((v / 4608) % 8) + 4) 17) true from (by unfold closeR; rw [if_pos h9, nI_clamp (by omega), nI_clamp (by omega)])] at hI hP hD
            obtain ⟨hP, hD⟩ := sw_PD (L := []) (M := (fQ cy x1 a1 t1 u1 v1 p1 r (findS σ d ((v / 6) % 8) ((v / 384) % 12)) (hiN n) fl tx ln)) (T := (fQ cy x a tr s0 s1 pa q (clS (findS σ d ((v / 6) % 8) ((v / 384) % 12)) (sbt ((v / 4608) % 8) (((v / 4608) % 8) + 4) 17) true) (hiN (hiN n)) fl tx ln)) hP hD
            have hP : va_P g vwCl (fQ cy x a tr s0 s1 pa q (clS (findS σ d ((v / 6) % 8) ((v / 384) % 12)) (sbt ((v / 4608) % 8) (((v / 4608) % 8) + 4) 17) true) (hiN (hiN n)) fl tx ln ++ fQ cy x1 a1 t1 u1 v1 p1 r (findS σ d ((v / 6) % 8) ((v / 384) % 12)) (hiN n) fl tx ln) H := hP
            have hD : va_D A (fQ cy x a tr s0 s1 pa q (clS (findS σ d ((v / 6) % 8) ((v / 384) % 12)) (sbt ((v / 4608) % 8) (((v / 4608) % 8) + 4) 17) true) (hiN (hiN n)) fl tx ln ++ fQ cy x1 a1 t1 u1 v1 p1 r (findS σ d ((v / 6) % 8) ((v / 384) % 12)) (hiN n) fl tx ln) := hD
            refine ti (show an (fClose (nI ((v / 4608) % 8)) (nI (((v / 4608) % 8) + 4))) (nI (closeA (findS σ d ((v / 6) % 8) ((v / 384) % 12)) (nI ((v / 4608) % 8)) (nI (((v / 4608) % 8) + 4)) true)) = (nI (closeA (findS σ d ((v / 6) % 8) ((v / 384) % 12)) (nI ((v / 4608) % 8)) (nI (((v / 4608) % 8) + 4)) true)) from (an_0 h9)) ?_
            show W _ _ _ _ _ _ _ _ _ _ _ _ _ _ _ (F0 mX 354 ls [.int (nI (closeA (findS σ d ((v / 6) % 8) ((v / 384) % 12)) (nI ((v / 4608) % 8)) (nI (((v / 4608) % 8) + 4)) true))])
            refine rd_call (va_runS (As := [.int (nI (closeA (findS σ d ((v / 6) % 8) ((v / 384) % 12)) (nI ((v / 4608) % 8)) (nI (((v / 4608) % 8) + 4)) true))]) (rest := []) ⟨hx, hb, hml, hown, hts⟩ (c_L_thrown l (nI (closeA (findS σ d ((v / 6) % 8) ((v / 384) % 12)) (nI ((v / 4608) % 8)) (nI (((v / 4608) % 8) + 4)) true)) ) ⟨(cB 1 hts wd30_0 wd5_14 wd29_22 rfl rfl (by decide +kernel) ⟨Nat.le_of_ble_eq_true rfl, Nat.le_of_ble_eq_true rfl⟩), hts _ wd29_23⟩ p0 rfl rfl hl.1 rfl (lv_room (Nat.le_of_ble_eq_true rfl)) dL_found_354 ⟨by show _ ≤ 60; omega, by show _ ≤ 360; omega⟩) ?_
            refine ti (show bI (thB (nI (closeA (findS σ d ((v / 6) % 8) ((v / 384) % 12)) (nI ((v / 4608) % 8)) (nI (((v / 4608) % 8) + 4)) true))) = bI false from congrArg bI (thB_n (closeA_lt h9))) ?_
            show W _ _ _ _ _ _ _ _ _ _ _ _ _ _ _ (F0 mX 357 ls [.int (bI false)])
            refine lv_if_ne (tgt := 408) hx hb dL_found_357 (by decide) (fun c_357 => ?_) (fun c_357 => ?_)
            · have c_357 := (bI_ne0.mp c_357)
              exact absurd c_357 Bool.false_ne_true
            · have c_357 := (bI_eq0.mp c_357)
              refine lv_aload_n hx hb dL_found_360 rfl (lv_at hl 5 rfl) ?_
              refine lv_iload hx hb dL_found_361 (lv_at hl 0 rfl) ?_
              refine lv_iload hx hb dL_found_363 (lv_at hl 0 rfl) ?_
              refine lv_iconst (v := (nI 4)) hx hb dL_found_365 (by decide) ?_
              refine lv_iadd hx hb dL_found_366 ?_
              refine ti (nI_add ((v / 4608) % 8) 4) ?_
              refine lv_iconst (v := (nI 1)) hx hb dL_found_367 (by decide) ?_
              refine ti (show (nI 1) = (bI true) from rfl) ?_
              refine wr_callS (pre := (fQ cy x a tr s0 s1 pa q (clS (findS σ d ((v / 6) % 8) ((v / 384) % 12)) (sbt ((v / 4608) % 8) (((v / 4608) % 8) + 4) 17) true) (hiN (hiN n)) fl tx ln)) (wc := fQ cy x1 a1 t1 u1 v1 p1 r (findS σ d ((v / 6) % 8) ((v / 384) % 12)) (hiN n) fl tx ln) (vx_runSW (hh := [(0, 7, 8, 13), (0, 7, 13, 16)]) (As := [.ref (x1 0), .int (nI ((v / 4608) % 8)), .int (nI (((v / 4608) % 8) + 4)), .int (bI true)]) (rest := []) ⟨hx, hb, hml, hown, hts⟩ (c_L_closes l hfl g cy x1 a1 t1 u1 v1 p1 H.size bd r (findS σ d ((v / 6) % 8) ((v / 384) % 12)) (hiH Hh n σ) (hiN n) K fl tx ln (nI ((v / 4608) % 8)) (nI (((v / 4608) % 8) + 4)) true hJ ) (vx_cwSW 4 hts (hl_in wd26_0 wd5_14 wd25_22 wd25_23) rfl rfl rfl (by decide +kernel) ⟨Nat.le_of_ble_eq_true rfl, Nat.le_of_ble_eq_true rfl⟩) (ps2 (ws := (fQ cy x a tr s0 s1 pa q (clS (findS σ d ((v / 6) % 8) ((v / 384) % 12)) (sbt ((v / 4608) % 8) (((v / 4608) % 8) + 4) 17) true) (hiN (hiN n)) fl tx ln) ++ fQ cy x1 a1 t1 u1 v1 p1 r (findS σ d ((v / 6) % 8) ((v / 384) % 12)) (hiN n) fl tx ln) hK hP hD hS hA hX hY _ nd_suffix at_suffix) rfl rfl hl.1 rfl (lv_room (Nat.le_of_ble_eq_true rfl)) dL_found_368 ⟨by show _ ≤ 60; omega, by show _ ≤ 360; omega⟩) hP hD hS hA (fun _ => fQ_ad) (fun r H locs hJ hP hD hS => ?_)
              have h9 : fClose (nI ((v / 4608) % 8)) (nI (((v / 4608) % 8) + 4)) = 0 := (by rw [fClose_in (by omega) (by omega), if_neg (sbt_a4 _ (by omega))])
              simp only [if_pos h9] at hJ hP hD
              rw [show closeR (findS σ d ((v / 6) % 8) ((v / 384) % 12)) (nI ((v / 4608) % 8)) (nI (((v / 4608) % 8) + 4)) true = clS (findS σ d ((v / 6) % 8) ((v / 384) % 12)) (sbt ((v / 4608) % 8) (((v / 4608) % 8) + 4) 17) true from (by unfold closeR; rw [if_pos h9, nI_clamp (by omega), nI_clamp (by omega)])] at hJ hP hD
              have hP : va_P g vwCl (fQ cy x a tr s0 s1 pa q (clS (findS σ d ((v / 6) % 8) ((v / 384) % 12)) (sbt ((v / 4608) % 8) (((v / 4608) % 8) + 4) 17) true) (hiN (hiN n)) fl tx ln ++ fQ cy x1 a1 t1 u1 v1 p1 r (clS (findS σ d ((v / 6) % 8) ((v / 384) % 12)) (sbt ((v / 4608) % 8) (((v / 4608) % 8) + 4) 17) true) (hiN (hiN n)) fl tx ln) H := hP
              have hD : va_D A (fQ cy x a tr s0 s1 pa q (clS (findS σ d ((v / 6) % 8) ((v / 384) % 12)) (sbt ((v / 4608) % 8) (((v / 4608) % 8) + 4) 17) true) (hiN (hiN n)) fl tx ln ++ fQ cy x1 a1 t1 u1 v1 p1 r (clS (findS σ d ((v / 6) % 8) ((v / 384) % 12)) (sbt ((v / 4608) % 8) (((v / 4608) % 8) + 4) 17) true) (hiN (hiN n)) fl tx ln) := hD
              refine ti (show an (fClose (nI ((v / 4608) % 8)) (nI (((v / 4608) % 8) + 4))) (nI (closeA (findS σ d ((v / 6) % 8) ((v / 384) % 12)) (nI ((v / 4608) % 8)) (nI (((v / 4608) % 8) + 4)) true)) = (nI (closeA (findS σ d ((v / 6) % 8) ((v / 384) % 12)) (nI ((v / 4608) % 8)) (nI (((v / 4608) % 8) + 4)) true)) from (an_0 h9)) ?_
              show W _ _ _ _ _ _ _ _ _ _ _ _ _ _ _ (F0 mX 371 ls [.int (nI (closeA (findS σ d ((v / 6) % 8) ((v / 384) % 12)) (nI ((v / 4608) % 8)) (nI (((v / 4608) % 8) + 4)) true))])
              refine rd_call (va_runS (As := [.int (nI (closeA (findS σ d ((v / 6) % 8) ((v / 384) % 12)) (nI ((v / 4608) % 8)) (nI (((v / 4608) % 8) + 4)) true))]) (rest := []) ⟨hx, hb, hml, hown, hts⟩ (c_L_thrown l (nI (closeA (findS σ d ((v / 6) % 8) ((v / 384) % 12)) (nI ((v / 4608) % 8)) (nI (((v / 4608) % 8) + 4)) true)) ) ⟨(cB 1 hts wd30_0 wd5_14 wd29_22 rfl rfl (by decide +kernel) ⟨Nat.le_of_ble_eq_true rfl, Nat.le_of_ble_eq_true rfl⟩), hts _ wd29_23⟩ p0 rfl rfl hl.1 rfl (lv_room (Nat.le_of_ble_eq_true rfl)) dL_found_371 ⟨by show _ ≤ 60; omega, by show _ ≤ 360; omega⟩) ?_
              refine ti (show bI (thB (nI (closeA (findS σ d ((v / 6) % 8) ((v / 384) % 12)) (nI ((v / 4608) % 8)) (nI (((v / 4608) % 8) + 4)) true))) = bI false from congrArg bI (thB_n (closeA_lt h9))) ?_
              show W _ _ _ _ _ _ _ _ _ _ _ _ _ _ _ (F0 mX 374 ls [.int (bI false)])
              refine lv_if_ne (tgt := 408) hx hb dL_found_374 (by decide) (fun c_374 => ?_) (fun c_374 => ?_)
              · have c_374 := (bI_ne0.mp c_374)
                exact absurd c_374 Bool.false_ne_true
              · have c_374 := (bI_eq0.mp c_374)
                have hWc := fI_wf hI
                have fc9 := fnd_close (fi := (v / 6) % 8) (c := (v / 384) % 12) (a := (v / 4608) % 8) hW hd (by omega) (by omega)
                refine lv_aload_n hx hb dL_found_377 rfl (lv_at hl 4 rfl) ?_
                refine lv_iconst (v := (nI 3)) hx hb dL_found_378 (by decide) ?_
                refine lv_iload_n hx hb dL_found_379 rfl (lv_at hl 7 rfl) ?_
                refine lv_bipush (v := (nI 7)) hx hb dL_found_380 (by decide) ?_
                refine lv_iconst (v := (nI 0)) hx hb dL_found_382 (by decide) ?_
                obtain ⟨hP, hD⟩ := sw_PD (L := []) (M := (fQ cy x a tr s0 s1 pa q (clS (findS σ d ((v / 6) % 8) ((v / 384) % 12)) (sbt ((v / 4608) % 8) (((v / 4608) % 8) + 4) 17) true) (hiN (hiN n)) fl tx ln)) (T := (fQ cy x1 a1 t1 u1 v1 p1 r (clS (findS σ d ((v / 6) % 8) ((v / 384) % 12)) (sbt ((v / 4608) % 8) (((v / 4608) % 8) + 4) 17) true) (hiN (hiN n)) fl tx ln)) hP hD
                refine wr_callS (pre := (fQ cy x1 a1 t1 u1 v1 p1 r (clS (findS σ d ((v / 6) % 8) ((v / 384) % 12)) (sbt ((v / 4608) % 8) (((v / 4608) % 8) + 4) 17) true) (hiN (hiN n)) fl tx ln)) (wc := fQ cy x a tr s0 s1 pa q (clS (findS σ d ((v / 6) % 8) ((v / 384) % 12)) (sbt ((v / 4608) % 8) (((v / 4608) % 8) + 4) 17) true) (hiN (hiN n)) fl tx ln) (va_runS (As := [.ref (x 0), .int (nI 3), .int (nI d), .int (nI 7), .int (nI 0)]) (rest := []) ⟨hx, hb, hml, hown, hts⟩ (c_L_call_3 l hfl g cy x a tr s0 s1 pa H.size bd q (clS (findS σ d ((v / 6) % 8) ((v / 384) % 12)) (sbt ((v / 4608) % 8) (((v / 4608) % 8) + 4) 17) true) (hiH (hiH Hh n σ) (hiN n) (findS σ d ((v / 6) % 8) ((v / 384) % 12))) (hiN (hiN n)) K fl tx ln (nI d) (nI 7) (nI 0) hI ) ⟨(cB 5 hts wd9_11 wd5_14 wd9_9 rfl rfl (by decide +kernel) ⟨Nat.le_of_ble_eq_true rfl, Nat.le_of_ble_eq_true rfl⟩), hts _ wd9_10⟩ (ps2 (ws := (fQ cy x1 a1 t1 u1 v1 p1 r (clS (findS σ d ((v / 6) % 8) ((v / 384) % 12)) (sbt ((v / 4608) % 8) (((v / 4608) % 8) + 4) 17) true) (hiN (hiN n)) fl tx ln) ++ fQ cy x a tr s0 s1 pa q (clS (findS σ d ((v / 6) % 8) ((v / 384) % 12)) (sbt ((v / 4608) % 8) (((v / 4608) % 8) + 4) 17) true) (hiN (hiN n)) fl tx ln) hK hP hD hS hA hX hY _ nd_suffix at_suffix) rfl rfl hl.1 rfl (lv_room (Nat.le_of_ble_eq_true rfl)) dL_found_383 ⟨by show _ ≤ 60; omega, by show _ ≤ 360; omega⟩) hP hD hS hA (fun _ => fQ_ad) (fun q H locs hI hP hD hS => ?_)
                obtain ⟨hP, hD⟩ := sw_PD (L := []) (M := (fQ cy x1 a1 t1 u1 v1 p1 r (clS (findS σ d ((v / 6) % 8) ((v / 384) % 12)) (sbt ((v / 4608) % 8) (((v / 4608) % 8) + 4) 17) true) (hiN (hiN n)) fl tx ln)) (T := (fQ cy x a tr s0 s1 pa q (clS (findS σ d ((v / 6) % 8) ((v / 384) % 12)) (sbt ((v / 4608) % 8) (((v / 4608) % 8) + 4) 17) true) (hiN (hiN n)) fl tx ln)) hP hD
                have hP : va_P g vwCl (fQ cy x a tr s0 s1 pa q (clS (findS σ d ((v / 6) % 8) ((v / 384) % 12)) (sbt ((v / 4608) % 8) (((v / 4608) % 8) + 4) 17) true) (hiN (hiN n)) fl tx ln ++ fQ cy x1 a1 t1 u1 v1 p1 r (clS (findS σ d ((v / 6) % 8) ((v / 384) % 12)) (sbt ((v / 4608) % 8) (((v / 4608) % 8) + 4) 17) true) (hiN (hiN n)) fl tx ln) H := hP
                have hD : va_D A (fQ cy x a tr s0 s1 pa q (clS (findS σ d ((v / 6) % 8) ((v / 384) % 12)) (sbt ((v / 4608) % 8) (((v / 4608) % 8) + 4) 17) true) (hiN (hiN n)) fl tx ln ++ fQ cy x1 a1 t1 u1 v1 p1 r (clS (findS σ d ((v / 6) % 8) ((v / 384) % 12)) (sbt ((v / 4608) % 8) (((v / 4608) % 8) + 4) 17) true) (hiN (hiN n)) fl tx ln) := hD
                refine ti (show an (fDog (clS (findS σ d ((v / 6) % 8) ((v / 384) % 12)) (sbt ((v / 4608) % 8) (((v / 4608) % 8) + 4) 17) true) (nI d) (nI 7)) (nI (ndg (clS (findS σ d ((v / 6) % 8) ((v / 384) % 12)) (sbt ((v / 4608) % 8) (((v / 4608) % 8) + 4) 17) true) (nI d).toNatClampNeg (nI 7).toNatClampNeg)) = (nI (ct (hon (clS (findS σ d ((v / 6) % 8) ((v / 384) % 12)) (sbt ((v / 4608) % 8) (((v / 4608) % 8) + 4) 17) true) d) ((clS (findS σ d ((v / 6) % 8) ((v / 384) % 12)) (sbt ((v / 4608) % 8) (((v / 4608) % 8) + 4) 17) true) 1))) from (v_dg (w := 7) hWc.n0 (by rw [clS_hi (sbt_l4 _ (by omega)) (Or.inl (by decide))]; exact hd) (by decide))) ?_
                show W _ _ _ _ _ _ _ _ _ _ _ _ _ _ _ (F0 mX 386 ls [.int (nI (ct (hon (clS (findS σ d ((v / 6) % 8) ((v / 384) % 12)) (sbt ((v / 4608) % 8) (((v / 4608) % 8) + 4) 17) true) d) ((clS (findS σ d ((v / 6) % 8) ((v / 384) % 12)) (sbt ((v / 4608) % 8) (((v / 4608) % 8) + 4) 17) true) 1)))])
                refine ti (show (nI (ct (hon (clS (findS σ d ((v / 6) % 8) ((v / 384) % 12)) (sbt ((v / 4608) % 8) (((v / 4608) % 8) + 4) 17) true) d) ((clS (findS σ d ((v / 6) % 8) ((v / 384) % 12)) (sbt ((v / 4608) % 8) (((v / 4608) % 8) + 4) 17) true) 1))) = (nI (ct (hon (findS σ d ((v / 6) % 8) ((v / 384) % 12)) d) ((findS σ d ((v / 6) % 8) ((v / 384) % 12)) 1))) from (congrArg nI fc9.1)) ?_
                refine lv_iload hx hb dL_found_386 (lv_at hl 1 rfl) ?_
                refine lv_icmp_ne (tgt := 408) hx hb dL_found_388 (by decide) (fun c_388 => absurd rfl c_388) (fun _ => ?_)
                refine lv_aload_n hx hb dL_found_391 rfl (lv_at hl 4 rfl) ?_
                refine lv_iconst (v := (nI 3)) hx hb dL_found_392 (by decide) ?_
                refine lv_iload_n hx hb dL_found_393 rfl (lv_at hl 7 rfl) ?_
                refine lv_iconst (v := (nI 4)) hx hb dL_found_394 (by decide) ?_
                refine lv_iconst (v := (nI 0)) hx hb dL_found_395 (by decide) ?_
                obtain ⟨hP, hD⟩ := sw_PD (L := []) (M := (fQ cy x a tr s0 s1 pa q (clS (findS σ d ((v / 6) % 8) ((v / 384) % 12)) (sbt ((v / 4608) % 8) (((v / 4608) % 8) + 4) 17) true) (hiN (hiN n)) fl tx ln)) (T := (fQ cy x1 a1 t1 u1 v1 p1 r (clS (findS σ d ((v / 6) % 8) ((v / 384) % 12)) (sbt ((v / 4608) % 8) (((v / 4608) % 8) + 4) 17) true) (hiN (hiN n)) fl tx ln)) hP hD
                refine wr_callS (pre := (fQ cy x1 a1 t1 u1 v1 p1 r (clS (findS σ d ((v / 6) % 8) ((v / 384) % 12)) (sbt ((v / 4608) % 8) (((v / 4608) % 8) + 4) 17) true) (hiN (hiN n)) fl tx ln)) (wc := fQ cy x a tr s0 s1 pa q (clS (findS σ d ((v / 6) % 8) ((v / 384) % 12)) (sbt ((v / 4608) % 8) (((v / 4608) % 8) + 4) 17) true) (hiN (hiN n)) fl tx ln) (va_runS (As := [.ref (x 0), .int (nI 3), .int (nI d), .int (nI 4), .int (nI 0)]) (rest := []) ⟨hx, hb, hml, hown, hts⟩ (c_L_call_3 l hfl g cy x a tr s0 s1 pa H.size bd q (clS (findS σ d ((v / 6) % 8) ((v / 384) % 12)) (sbt ((v / 4608) % 8) (((v / 4608) % 8) + 4) 17) true) (hiH (hiH Hh n σ) (hiN n) (findS σ d ((v / 6) % 8) ((v / 384) % 12))) (hiN (hiN n)) K fl tx ln (nI d) (nI 4) (nI 0) hI ) ⟨(cB 5 hts wd9_11 wd5_14 wd9_9 rfl rfl (by decide +kernel) ⟨Nat.le_of_ble_eq_true rfl, Nat.le_of_ble_eq_true rfl⟩), hts _ wd9_10⟩ (ps2 (ws := (fQ cy x1 a1 t1 u1 v1 p1 r (clS (findS σ d ((v / 6) % 8) ((v / 384) % 12)) (sbt ((v / 4608) % 8) (((v / 4608) % 8) + 4) 17) true) (hiN (hiN n)) fl tx ln) ++ fQ cy x a tr s0 s1 pa q (clS (findS σ d ((v / 6) % 8) ((v / 384) % 12)) (sbt ((v / 4608) % 8) (((v / 4608) % 8) + 4) 17) true) (hiN (hiN n)) fl tx ln) hK hP hD hS hA hX hY _ nd_suffix at_suffix) rfl rfl hl.1 rfl (lv_room (Nat.le_of_ble_eq_true rfl)) dL_found_396 ⟨by show _ ≤ 60; omega, by show _ ≤ 360; omega⟩) hP hD hS hA (fun _ => fQ_ad) (fun q H locs hI hP hD hS => ?_)
                obtain ⟨hP, hD⟩ := sw_PD (L := []) (M := (fQ cy x1 a1 t1 u1 v1 p1 r (clS (findS σ d ((v / 6) % 8) ((v / 384) % 12)) (sbt ((v / 4608) % 8) (((v / 4608) % 8) + 4) 17) true) (hiN (hiN n)) fl tx ln)) (T := (fQ cy x a tr s0 s1 pa q (clS (findS σ d ((v / 6) % 8) ((v / 384) % 12)) (sbt ((v / 4608) % 8) (((v / 4608) % 8) + 4) 17) true) (hiN (hiN n)) fl tx ln)) hP hD
                have hP : va_P g vwCl (fQ cy x a tr s0 s1 pa q (clS (findS σ d ((v / 6) % 8) ((v / 384) % 12)) (sbt ((v / 4608) % 8) (((v / 4608) % 8) + 4) 17) true) (hiN (hiN n)) fl tx ln ++ fQ cy x1 a1 t1 u1 v1 p1 r (clS (findS σ d ((v / 6) % 8) ((v / 384) % 12)) (sbt ((v / 4608) % 8) (((v / 4608) % 8) + 4) 17) true) (hiN (hiN n)) fl tx ln) H := hP
                have hD : va_D A (fQ cy x a tr s0 s1 pa q (clS (findS σ d ((v / 6) % 8) ((v / 384) % 12)) (sbt ((v / 4608) % 8) (((v / 4608) % 8) + 4) 17) true) (hiN (hiN n)) fl tx ln ++ fQ cy x1 a1 t1 u1 v1 p1 r (clS (findS σ d ((v / 6) % 8) ((v / 384) % 12)) (sbt ((v / 4608) % 8) (((v / 4608) % 8) + 4) 17) true) (hiN (hiN n)) fl tx ln) := hD
                refine ti (show an (fDog (clS (findS σ d ((v / 6) % 8) ((v / 384) % 12)) (sbt ((v / 4608) % 8) (((v / 4608) % 8) + 4) 17) true) (nI d) (nI 4)) (nI (ndg (clS (findS σ d ((v / 6) % 8) ((v / 384) % 12)) (sbt ((v / 4608) % 8) (((v / 4608) % 8) + 4) 17) true) (nI d).toNatClampNeg (nI 4).toNatClampNeg)) = (nI (dg (clS (findS σ d ((v / 6) % 8) ((v / 384) % 12)) (sbt ((v / 4608) % 8) (((v / 4608) % 8) + 4) 17) true) d 4)) from (v_dg (w := 4) hWc.n0 (by rw [clS_hi (sbt_l4 _ (by omega)) (Or.inl (by decide))]; exact hd) (by decide))) ?_
                show W _ _ _ _ _ _ _ _ _ _ _ _ _ _ _ (F0 mX 399 ls [.int (nI (dg (clS (findS σ d ((v / 6) % 8) ((v / 384) % 12)) (sbt ((v / 4608) % 8) (((v / 4608) % 8) + 4) 17) true) d 4))])
                refine ti (show (nI (dg (clS (findS σ d ((v / 6) % 8) ((v / 384) % 12)) (sbt ((v / 4608) % 8) (((v / 4608) % 8) + 4) 17) true) d 4)) = (nI (dg σ d 4)) from (congrArg nI fc9.2)) ?_
                refine lv_iload hx hb dL_found_399 (lv_at hl 16 rfl) ?_
                refine lv_icmp_ne (tgt := 408) hx hb dL_found_401 (by decide) (fun c_401 => absurd rfl c_401) (fun _ => ?_)
                refine lv_iconst (v := (nI 1)) hx hb dL_found_404 (by decide) ?_
                refine lv_goto (tgt := 409) hx hb dL_found_405 (by decide) ?_
                refine lv_istore (lv' := [(15, .int (nI 1)), (17, .int (nI ((v / 4608) % 8))), (16, .int (nI (ct (hon (findS σ d ((v / 6) % 8) ((v / 384) % 12)) d) ((findS σ d ((v / 6) % 8) ((v / 384) % 12)) 1)))), (14, .int (nI (ct (frd σ) (σ 1)))), (0, .ref (x 0)), (1, .ref (x1 0)), (2, .int (nI v)), (3, .int (nI d)), (4, .int (nI ((v / 6) % 8))), (5, .int (nI ((v / 48) % 8))), (6, .int (nI ((v / 384) % 12))), (7, .int (nI (shr σ d ((v / 6) % 8) ((v / 384) % 12) ((v / 48) % 8)))), (8, .int (nI (shr σ d ((v / 6) % 8) ((v / 384) % 12) ((v / 6) % 8)))), (9, .int (nI (σ (8 + ((v / 48) % 8))))), (10, .int (nI (σ 4))), (11, .int (nI (σ 5))), (12, .int (nI (dg σ d 4))), (13, .int (nI (sm (shr σ d ((v / 6) % 8) ((v / 384) % 12)) 8)))]) hx hb dL_found_409 hl (by decide) rfl (fun ls hl => ?_)
                refine lv_iload hx hb dL_found_411 (lv_at hl 0 rfl) ?_
                refine lv_if_eq (tgt := 506) hx hb dL_found_413 (by decide) (fun c9 => absurd c9 (by decide)) (fun _ => ?_)
                refine lv_aload_n hx hb dL_found_416 rfl (lv_at hl 4 rfl) ?_
                refine lv_bipush (v := (nI 10)) hx hb dL_found_417 (by decide) ?_
                refine lv_iconst (v := (nI 0)) hx hb dL_found_419 (by decide) ?_
                refine lv_iconst (v := (nI 0)) hx hb dL_found_420 (by decide) ?_
                refine lv_iconst (v := (nI 0)) hx hb dL_found_421 (by decide) ?_
                obtain ⟨hP, hD⟩ := sw_PD (L := []) (M := (fQ cy x a tr s0 s1 pa q (clS (findS σ d ((v / 6) % 8) ((v / 384) % 12)) (sbt ((v / 4608) % 8) (((v / 4608) % 8) + 4) 17) true) (hiN (hiN n)) fl tx ln)) (T := (fQ cy x1 a1 t1 u1 v1 p1 r (clS (findS σ d ((v / 6) % 8) ((v / 384) % 12)) (sbt ((v / 4608) % 8) (((v / 4608) % 8) + 4) 17) true) (hiN (hiN n)) fl tx ln)) hP hD
                refine wr_callS (pre := (fQ cy x1 a1 t1 u1 v1 p1 r (clS (findS σ d ((v / 6) % 8) ((v / 384) % 12)) (sbt ((v / 4608) % 8) (((v / 4608) % 8) + 4) 17) true) (hiN (hiN n)) fl tx ln)) (wc := fQ cy x a tr s0 s1 pa q (clS (findS σ d ((v / 6) % 8) ((v / 384) % 12)) (sbt ((v / 4608) % 8) (((v / 4608) % 8) + 4) 17) true) (hiN (hiN n)) fl tx ln) (va_runS (As := [.ref (x 0), .int (nI 10), .int (nI 0), .int (nI 0), .int (nI 0)]) (rest := []) ⟨hx, hb, hml, hown, hts⟩ (c_L_call_10 l hfl g cy x a tr s0 s1 pa H.size bd q (clS (findS σ d ((v / 6) % 8) ((v / 384) % 12)) (sbt ((v / 4608) % 8) (((v / 4608) % 8) + 4) 17) true) (hiH (hiH Hh n σ) (hiN n) (findS σ d ((v / 6) % 8) ((v / 384) % 12))) (hiN (hiN n)) K fl tx ln (nI 0) (nI 0) (nI 0) hI ) ⟨(cB 5 hts wd9_11 wd5_14 wd9_9 rfl rfl (by decide +kernel) ⟨Nat.le_of_ble_eq_true rfl, Nat.le_of_ble_eq_true rfl⟩), hts _ wd9_10⟩ (ps2 (ws := (fQ cy x1 a1 t1 u1 v1 p1 r (clS (findS σ d ((v / 6) % 8) ((v / 384) % 12)) (sbt ((v / 4608) % 8) (((v / 4608) % 8) + 4) 17) true) (hiN (hiN n)) fl tx ln) ++ fQ cy x a tr s0 s1 pa q (clS (findS σ d ((v / 6) % 8) ((v / 384) % 12)) (sbt ((v / 4608) % 8) (((v / 4608) % 8) + 4) 17) true) (hiN (hiN n)) fl tx ln) hK hP hD hS hA hX hY _ nd_suffix at_suffix) rfl rfl hl.1 rfl (lv_room (Nat.le_of_ble_eq_true rfl)) dL_found_422 ⟨by show _ ≤ 60; omega, by show _ ≤ 360; omega⟩) hP hD hS hA (fun _ => fQ_ad) (fun q H locs hI hP hD hS => ?_)
                have h9 : fUnd (hiN (hiN n)) = 0 := (if_neg (by omega))
                simp only [if_pos h9] at hI hP hD
                rw [show (hiH (hiH Hh n σ) (hiN n) (findS σ d ((v / 6) % 8) ((v / 384) % 12))) ((hiN (hiN n)) - 1) = findS σ d ((v / 6) % 8) ((v / 384) % 12) from (hiH_top hb9.2)] at hI hP hD
                obtain ⟨hP, hD⟩ := sw_PD (L := []) (M := (fQ cy x1 a1 t1 u1 v1 p1 r (clS (findS σ d ((v / 6) % 8) ((v / 384) % 12)) (sbt ((v / 4608) % 8) (((v / 4608) % 8) + 4) 17) true) (hiN (hiN n)) fl tx ln)) (T := (fQ cy x a tr s0 s1 pa q (findS σ d ((v / 6) % 8) ((v / 384) % 12)) ((hiN (hiN n)) - 1) fl tx ln)) hP hD
                have hP : va_P g vwCl (fQ cy x a tr s0 s1 pa q (findS σ d ((v / 6) % 8) ((v / 384) % 12)) ((hiN (hiN n)) - 1) fl tx ln ++ fQ cy x1 a1 t1 u1 v1 p1 r (clS (findS σ d ((v / 6) % 8) ((v / 384) % 12)) (sbt ((v / 4608) % 8) (((v / 4608) % 8) + 4) 17) true) (hiN (hiN n)) fl tx ln) H := hP
                have hD : va_D A (fQ cy x a tr s0 s1 pa q (findS σ d ((v / 6) % 8) ((v / 384) % 12)) ((hiN (hiN n)) - 1) fl tx ln ++ fQ cy x1 a1 t1 u1 v1 p1 r (clS (findS σ d ((v / 6) % 8) ((v / 384) % 12)) (sbt ((v / 4608) % 8) (((v / 4608) % 8) + 4) 17) true) (hiN (hiN n)) fl tx ln) := hD
                refine ti (show an (fUnd (hiN (hiN n))) (nI ((hiN (hiN n)) - 1)) = (nI ((hiN (hiN n)) - 1)) from (an_0 h9)) ?_
                show W _ _ _ _ _ _ _ _ _ _ _ _ _ _ _ (F0 mX 425 ls [.int (nI ((hiN (hiN n)) - 1))])
                refine rd_call (va_runS (As := [.int (nI ((hiN (hiN n)) - 1))]) (rest := []) ⟨hx, hb, hml, hown, hts⟩ (c_L_thrown l (nI ((hiN (hiN n)) - 1)) ) ⟨(cB 1 hts wd30_0 wd5_14 wd29_22 rfl rfl (by decide +kernel) ⟨Nat.le_of_ble_eq_true rfl, Nat.le_of_ble_eq_true rfl⟩), hts _ wd29_23⟩ p0 rfl rfl hl.1 rfl (lv_room (Nat.le_of_ble_eq_true rfl)) dL_found_425 ⟨by show _ ≤ 60; omega, by show _ ≤ 360; omega⟩) ?_
                refine ti (show bI (thB (nI ((hiN (hiN n)) - 1))) = bI false from congrArg bI (thB_n (by omega))) ?_
                show W _ _ _ _ _ _ _ _ _ _ _ _ _ _ _ (F0 mX 428 ls [.int (bI false)])
                refine lv_if_ne (tgt := 506) hx hb dL_found_428 (by decide) (fun c_428 => ?_) (fun c_428 => ?_)
                · have c_428 := (bI_ne0.mp c_428)
                  exact absurd c_428 Bool.false_ne_true
                · have c_428 := (bI_eq0.mp c_428)
                  refine lv_aload_n hx hb dL_found_431 rfl (lv_at hl 5 rfl) ?_
                  refine lv_bipush (v := (nI 10)) hx hb dL_found_432 (by decide) ?_
                  refine lv_iconst (v := (nI 0)) hx hb dL_found_434 (by decide) ?_
                  refine lv_iconst (v := (nI 0)) hx hb dL_found_435 (by decide) ?_
                  refine lv_iconst (v := (nI 0)) hx hb dL_found_436 (by decide) ?_
                  refine wr_callS (pre := (fQ cy x a tr s0 s1 pa q (findS σ d ((v / 6) % 8) ((v / 384) % 12)) ((hiN (hiN n)) - 1) fl tx ln)) (wc := fQ cy x1 a1 t1 u1 v1 p1 r (clS (findS σ d ((v / 6) % 8) ((v / 384) % 12)) (sbt ((v / 4608) % 8) (((v / 4608) % 8) + 4) 17) true) (hiN (hiN n)) fl tx ln) (va_runS (As := [.ref (x1 0), .int (nI 10), .int (nI 0), .int (nI 0), .int (nI 0)]) (rest := []) ⟨hx, hb, hml, hown, hts⟩ (c_L_call_10 l hfl g cy x1 a1 t1 u1 v1 p1 H.size bd r (clS (findS σ d ((v / 6) % 8) ((v / 384) % 12)) (sbt ((v / 4608) % 8) (((v / 4608) % 8) + 4) 17) true) (hiH (hiH Hh n σ) (hiN n) (findS σ d ((v / 6) % 8) ((v / 384) % 12))) (hiN (hiN n)) K fl tx ln (nI 0) (nI 0) (nI 0) hJ ) ⟨(cB 5 hts wd9_11 wd5_14 wd9_9 rfl rfl (by decide +kernel) ⟨Nat.le_of_ble_eq_true rfl, Nat.le_of_ble_eq_true rfl⟩), hts _ wd9_10⟩ (ps2 (ws := (fQ cy x a tr s0 s1 pa q (findS σ d ((v / 6) % 8) ((v / 384) % 12)) ((hiN (hiN n)) - 1) fl tx ln) ++ fQ cy x1 a1 t1 u1 v1 p1 r (clS (findS σ d ((v / 6) % 8) ((v / 384) % 12)) (sbt ((v / 4608) % 8) (((v / 4608) % 8) + 4) 17) true) (hiN (hiN n)) fl tx ln) hK hP hD hS hA hX hY _ nd_suffix at_suffix) rfl rfl hl.1 rfl (lv_room (Nat.le_of_ble_eq_true rfl)) dL_found_437 ⟨by show _ ≤ 60; omega, by show _ ≤ 360; omega⟩) hP hD hS hA (fun _ => fQ_ad) (fun r H locs hJ hP hD hS => ?_)
                  have h9 : fUnd (hiN (hiN n)) = 0 := (if_neg (by omega))
                  simp only [if_pos h9] at hJ hP hD
                  rw [show (hiH (hiH Hh n σ) (hiN n) (findS σ d ((v / 6) % 8) ((v / 384) % 12))) ((hiN (hiN n)) - 1) = findS σ d ((v / 6) % 8) ((v / 384) % 12) from (hiH_top hb9.2)] at hJ hP hD
                  have hP : va_P g vwCl (fQ cy x a tr s0 s1 pa q (findS σ d ((v / 6) % 8) ((v / 384) % 12)) ((hiN (hiN n)) - 1) fl tx ln ++ fQ cy x1 a1 t1 u1 v1 p1 r (findS σ d ((v / 6) % 8) ((v / 384) % 12)) ((hiN (hiN n)) - 1) fl tx ln) H := hP
                  have hD : va_D A (fQ cy x a tr s0 s1 pa q (findS σ d ((v / 6) % 8) ((v / 384) % 12)) ((hiN (hiN n)) - 1) fl tx ln ++ fQ cy x1 a1 t1 u1 v1 p1 r (findS σ d ((v / 6) % 8) ((v / 384) % 12)) ((hiN (hiN n)) - 1) fl tx ln) := hD
                  refine ti (show an (fUnd (hiN (hiN n))) (nI ((hiN (hiN n)) - 1)) = (nI ((hiN (hiN n)) - 1)) from (an_0 h9)) ?_
                  show W _ _ _ _ _ _ _ _ _ _ _ _ _ _ _ (F0 mX 440 ls [.int (nI ((hiN (hiN n)) - 1))])
                  refine rd_call (va_runS (As := [.int (nI ((hiN (hiN n)) - 1))]) (rest := []) ⟨hx, hb, hml, hown, hts⟩ (c_L_thrown l (nI ((hiN (hiN n)) - 1)) ) ⟨(cB 1 hts wd30_0 wd5_14 wd29_22 rfl rfl (by decide +kernel) ⟨Nat.le_of_ble_eq_true rfl, Nat.le_of_ble_eq_true rfl⟩), hts _ wd29_23⟩ p0 rfl rfl hl.1 rfl (lv_room (Nat.le_of_ble_eq_true rfl)) dL_found_440 ⟨by show _ ≤ 60; omega, by show _ ≤ 360; omega⟩) ?_
                  refine ti (show bI (thB (nI ((hiN (hiN n)) - 1))) = bI false from congrArg bI (thB_n (by omega))) ?_
                  show W _ _ _ _ _ _ _ _ _ _ _ _ _ _ _ (F0 mX 443 ls [.int (bI false)])
                  refine lv_if_ne (tgt := 506) hx hb dL_found_443 (by decide) (fun c_443 => ?_) (fun c_443 => ?_)
                  · have c_443 := (bI_ne0.mp c_443)
                    exact absurd c_443 Bool.false_ne_true
                  · have c_443 := (bI_eq0.mp c_443)
                    refine lv_aload_n hx hb dL_found_446 rfl (lv_at hl 4 rfl) ?_
                    refine lv_bipush (v := (nI 10)) hx hb dL_found_447 (by decide) ?_
                    refine lv_iconst (v := (nI 0)) hx hb dL_found_449 (by decide) ?_
                    refine lv_iconst (v := (nI 0)) hx hb dL_found_450 (by decide) ?_
                    refine lv_iconst (v := (nI 0)) hx hb dL_found_451 (by decide) ?_
                    obtain ⟨hP, hD⟩ := sw_PD (L := []) (M := (fQ cy x a tr s0 s1 pa q (findS σ d ((v / 6) % 8) ((v / 384) % 12)) ((hiN (hiN n)) - 1) fl tx ln)) (T := (fQ cy x1 a1 t1 u1 v1 p1 r (findS σ d ((v / 6) % 8) ((v / 384) % 12)) ((hiN (hiN n)) - 1) fl tx ln)) hP hD
                    refine wr_callS (pre := (fQ cy x1 a1 t1 u1 v1 p1 r (findS σ d ((v / 6) % 8) ((v / 384) % 12)) ((hiN (hiN n)) - 1) fl tx ln)) (wc := fQ cy x a tr s0 s1 pa q (findS σ d ((v / 6) % 8) ((v / 384) % 12)) ((hiN (hiN n)) - 1) fl tx ln) (va_runS (As := [.ref (x 0), .int (nI 10), .int (nI 0), .int (nI 0), .int (nI 0)]) (rest := []) ⟨hx, hb, hml, hown, hts⟩ (c_L_call_10 l hfl g cy x a tr s0 s1 pa H.size bd q (findS σ d ((v / 6) % 8) ((v / 384) % 12)) (hiH (hiH Hh n σ) (hiN n) (findS σ d ((v / 6) % 8) ((v / 384) % 12))) ((hiN (hiN n)) - 1) K fl tx ln (nI 0) (nI 0) (nI 0) hI ) ⟨(cB 5 hts wd9_11 wd5_14 wd9_9 rfl rfl (by decide +kernel) ⟨Nat.le_of_ble_eq_true rfl, Nat.le_of_ble_eq_true rfl⟩), hts _ wd9_10⟩ (ps2 (ws := (fQ cy x1 a1 t1 u1 v1 p1 r (findS σ d ((v / 6) % 8) ((v / 384) % 12)) ((hiN (hiN n)) - 1) fl tx ln) ++ fQ cy x a tr s0 s1 pa q (findS σ d ((v / 6) % 8) ((v / 384) % 12)) ((hiN (hiN n)) - 1) fl tx ln) hK hP hD hS hA hX hY _ nd_suffix at_suffix) rfl rfl hl.1 rfl (lv_room (Nat.le_of_ble_eq_true rfl)) dL_found_452 ⟨by show _ ≤ 60; omega, by show _ ≤ 360; omega⟩) hP hD hS hA (fun _ => fQ_ad) (fun q H locs hI hP hD hS => ?_)
                    have h9 : fUnd ((hiN (hiN n)) - 1) = 0 := (if_neg (by omega))
                    simp only [if_pos h9] at hI hP hD
                    rw [show (hiH (hiH Hh n σ) (hiN n) (findS σ d ((v / 6) % 8) ((v / 384) % 12))) (((hiN (hiN n)) - 1) - 1) = σ from ((hiH_und hb9.1 hb9.2).trans (hiH_top hn14))] at hI hP hD
                    obtain ⟨hP, hD⟩ := sw_PD (L := []) (M := (fQ cy x1 a1 t1 u1 v1 p1 r (findS σ d ((v / 6) % 8) ((v / 384) % 12)) ((hiN (hiN n)) - 1) fl tx ln)) (T := (fQ cy x a tr s0 s1 pa q σ (((hiN (hiN n)) - 1) - 1) fl tx ln)) hP hD
                    have hP : va_P g vwCl (fQ cy x a tr s0 s1 pa q σ (((hiN (hiN n)) - 1) - 1) fl tx ln ++ fQ cy x1 a1 t1 u1 v1 p1 r (findS σ d ((v / 6) % 8) ((v / 384) % 12)) ((hiN (hiN n)) - 1) fl tx ln) H := hP
                    have hD : va_D A (fQ cy x a tr s0 s1 pa q σ (((hiN (hiN n)) - 1) - 1) fl tx ln ++ fQ cy x1 a1 t1 u1 v1 p1 r (findS σ d ((v / 6) % 8) ((v / 384) % 12)) ((hiN (hiN n)) - 1) fl tx ln) := hD
                    refine ti (show an (fUnd ((hiN (hiN n)) - 1)) (nI (((hiN (hiN n)) - 1) - 1)) = (nI (((hiN (hiN n)) - 1) - 1)) from (an_0 h9)) ?_
                    show W _ _ _ _ _ _ _ _ _ _ _ _ _ _ _ (F0 mX 455 ls [.int (nI (((hiN (hiN n)) - 1) - 1))])
                    refine rd_call (va_runS (As := [.int (nI (((hiN (hiN n)) - 1) - 1))]) (rest := []) ⟨hx, hb, hml, hown, hts⟩ (c_L_thrown l (nI (((hiN (hiN n)) - 1) - 1)) ) ⟨(cB 1 hts wd30_0 wd5_14 wd29_22 rfl rfl (by decide +kernel) ⟨Nat.le_of_ble_eq_true rfl, Nat.le_of_ble_eq_true rfl⟩), hts _ wd29_23⟩ p0 rfl rfl hl.1 rfl (lv_room (Nat.le_of_ble_eq_true rfl)) dL_found_455 ⟨by show _ ≤ 60; omega, by show _ ≤ 360; omega⟩) ?_
                    refine ti (show bI (thB (nI (((hiN (hiN n)) - 1) - 1))) = bI false from congrArg bI (thB_n (by omega))) ?_
                    show W _ _ _ _ _ _ _ _ _ _ _ _ _ _ _ (F0 mX 458 ls [.int (bI false)])
                    refine lv_if_ne (tgt := 506) hx hb dL_found_458 (by decide) (fun c_458 => ?_) (fun c_458 => ?_)
                    · have c_458 := (bI_ne0.mp c_458)
                      exact absurd c_458 Bool.false_ne_true
                    · have c_458 := (bI_eq0.mp c_458)
                      refine lv_aload_n hx hb dL_found_461 rfl (lv_at hl 5 rfl) ?_
                      refine lv_bipush (v := (nI 10)) hx hb dL_found_462 (by decide) ?_
                      refine lv_iconst (v := (nI 0)) hx hb dL_found_464 (by decide) ?_
                      refine lv_iconst (v := (nI 0)) hx hb dL_found_465 (by decide) ?_
                      refine lv_iconst (v := (nI 0)) hx hb dL_found_466 (by decide) ?_
                      refine wr_callS (pre := (fQ cy x a tr s0 s1 pa q σ (((hiN (hiN n)) - 1) - 1) fl tx ln)) (wc := fQ cy x1 a1 t1 u1 v1 p1 r (findS σ d ((v / 6) % 8) ((v / 384) % 12)) ((hiN (hiN n)) - 1) fl tx ln) (va_runS (As := [.ref (x1 0), .int (nI 10), .int (nI 0), .int (nI 0), .int (nI 0)]) (rest := []) ⟨hx, hb, hml, hown, hts⟩ (c_L_call_10 l hfl g cy x1 a1 t1 u1 v1 p1 H.size bd r (findS σ d ((v / 6) % 8) ((v / 384) % 12)) (hiH (hiH Hh n σ) (hiN n) (findS σ d ((v / 6) % 8) ((v / 384) % 12))) ((hiN (hiN n)) - 1) K fl tx ln (nI 0) (nI 0) (nI 0) hJ ) ⟨(cB 5 hts wd9_11 wd5_14 wd9_9 rfl rfl (by decide +kernel) ⟨Nat.le_of_ble_eq_true rfl, Nat.le_of_ble_eq_true rfl⟩), hts _ wd9_10⟩ (ps2 (ws := (fQ cy x a tr s0 s1 pa q σ (((hiN (hiN n)) - 1) - 1) fl tx ln) ++ fQ cy x1 a1 t1 u1 v1 p1 r (findS σ d ((v / 6) % 8) ((v / 384) % 12)) ((hiN (hiN n)) - 1) fl tx ln) hK hP hD hS hA hX hY _ nd_suffix at_suffix) rfl rfl hl.1 rfl (lv_room (Nat.le_of_ble_eq_true rfl)) dL_found_467 ⟨by show _ ≤ 60; omega, by show _ ≤ 360; omega⟩) hP hD hS hA (fun _ => fQ_ad) (fun r H locs hJ hP hD hS => ?_)
                      have h9 : fUnd ((hiN (hiN n)) - 1) = 0 := (if_neg (by omega))
                      simp only [if_pos h9] at hJ hP hD
                      rw [show (hiH (hiH Hh n σ) (hiN n) (findS σ d ((v / 6) % 8) ((v / 384) % 12))) (((hiN (hiN n)) - 1) - 1) = σ from ((hiH_und hb9.1 hb9.2).trans (hiH_top hn14))] at hJ hP hD
                      have hP : va_P g vwCl (fQ cy x a tr s0 s1 pa q σ (((hiN (hiN n)) - 1) - 1) fl tx ln ++ fQ cy x1 a1 t1 u1 v1 p1 r σ (((hiN (hiN n)) - 1) - 1) fl tx ln) H := hP
                      have hD : va_D A (fQ cy x a tr s0 s1 pa q σ (((hiN (hiN n)) - 1) - 1) fl tx ln ++ fQ cy x1 a1 t1 u1 v1 p1 r σ (((hiN (hiN n)) - 1) - 1) fl tx ln) := hD
                      refine ti (show an (fUnd ((hiN (hiN n)) - 1)) (nI (((hiN (hiN n)) - 1) - 1)) = (nI (((hiN (hiN n)) - 1) - 1)) from (an_0 h9)) ?_
                      show W _ _ _ _ _ _ _ _ _ _ _ _ _ _ _ (F0 mX 470 ls [.int (nI (((hiN (hiN n)) - 1) - 1))])
                      refine rd_call (va_runS (As := [.int (nI (((hiN (hiN n)) - 1) - 1))]) (rest := []) ⟨hx, hb, hml, hown, hts⟩ (c_L_thrown l (nI (((hiN (hiN n)) - 1) - 1)) ) ⟨(cB 1 hts wd30_0 wd5_14 wd29_22 rfl rfl (by decide +kernel) ⟨Nat.le_of_ble_eq_true rfl, Nat.le_of_ble_eq_true rfl⟩), hts _ wd29_23⟩ p0 rfl rfl hl.1 rfl (lv_room (Nat.le_of_ble_eq_true rfl)) dL_found_470 ⟨by show _ ≤ 60; omega, by show _ ≤ 360; omega⟩) ?_
                      refine ti (show bI (thB (nI (((hiN (hiN n)) - 1) - 1))) = bI false from congrArg bI (thB_n (by omega))) ?_
                      show W _ _ _ _ _ _ _ _ _ _ _ _ _ _ _ (F0 mX 473 ls [.int (bI false)])
                      refine lv_if_ne (tgt := 506) hx hb dL_found_473 (by decide) (fun c_473 => ?_) (fun c_473 => ?_)
                      · have c_473 := (bI_ne0.mp c_473)
                        exact absurd c_473 Bool.false_ne_true
                      · have c_473 := (bI_eq0.mp c_473)
                        refine lv_aload_n hx hb dL_found_476 rfl (lv_at hl 4 rfl) ?_
                        refine lv_iconst (v := (nI 3)) hx hb dL_found_477 (by decide) ?_
                        refine lv_iload_n hx hb dL_found_478 rfl (lv_at hl 7 rfl) ?_
                        refine lv_iconst (v := (nI 5)) hx hb dL_found_479 (by decide) ?_
                        refine lv_iconst (v := (nI 0)) hx hb dL_found_480 (by decide) ?_
                        obtain ⟨hP, hD⟩ := sw_PD (L := []) (M := (fQ cy x a tr s0 s1 pa q σ (((hiN (hiN n)) - 1) - 1) fl tx ln)) (T := (fQ cy x1 a1 t1 u1 v1 p1 r σ (((hiN (hiN n)) - 1) - 1) fl tx ln)) hP hD
                        refine wr_callS (pre := (fQ cy x1 a1 t1 u1 v1 p1 r σ (((hiN (hiN n)) - 1) - 1) fl tx ln)) (wc := fQ cy x a tr s0 s1 pa q σ (((hiN (hiN n)) - 1) - 1) fl tx ln) (va_runS (As := [.ref (x 0), .int (nI 3), .int (nI d), .int (nI 5), .int (nI 0)]) (rest := []) ⟨hx, hb, hml, hown, hts⟩ (c_L_call_3 l hfl g cy x a tr s0 s1 pa H.size bd q σ (hiH (hiH Hh n σ) (hiN n) (findS σ d ((v / 6) % 8) ((v / 384) % 12))) (((hiN (hiN n)) - 1) - 1) K fl tx ln (nI d) (nI 5) (nI 0) hI ) ⟨(cB 5 hts wd9_11 wd5_14 wd9_9 rfl rfl (by decide +kernel) ⟨Nat.le_of_ble_eq_true rfl, Nat.le_of_ble_eq_true rfl⟩), hts _ wd9_10⟩ (ps2 (ws := (fQ cy x1 a1 t1 u1 v1 p1 r σ (((hiN (hiN n)) - 1) - 1) fl tx ln) ++ fQ cy x a tr s0 s1 pa q σ (((hiN (hiN n)) - 1) - 1) fl tx ln) hK hP hD hS hA hX hY _ nd_suffix at_suffix) rfl rfl hl.1 rfl (lv_room (Nat.le_of_ble_eq_true rfl)) dL_found_481 ⟨by show _ ≤ 60; omega, by show _ ≤ 360; omega⟩) hP hD hS hA (fun _ => fQ_ad) (fun q H locs hI hP hD hS => ?_)
                        obtain ⟨hP, hD⟩ := sw_PD (L := []) (M := (fQ cy x1 a1 t1 u1 v1 p1 r σ (((hiN (hiN n)) - 1) - 1) fl tx ln)) (T := (fQ cy x a tr s0 s1 pa q σ (((hiN (hiN n)) - 1) - 1) fl tx ln)) hP hD
                        have hP : va_P g vwCl (fQ cy x a tr s0 s1 pa q σ (((hiN (hiN n)) - 1) - 1) fl tx ln ++ fQ cy x1 a1 t1 u1 v1 p1 r σ (((hiN (hiN n)) - 1) - 1) fl tx ln) H := hP
                        have hD : va_D A (fQ cy x a tr s0 s1 pa q σ (((hiN (hiN n)) - 1) - 1) fl tx ln ++ fQ cy x1 a1 t1 u1 v1 p1 r σ (((hiN (hiN n)) - 1) - 1) fl tx ln) := hD
                        refine ti (show an (fDog σ (nI d) (nI 5)) (nI (ndg σ (nI d).toNatClampNeg (nI 5).toNatClampNeg)) = (nI (if msg σ d then 1 else 0)) from (v_dg (w := 5) hn0 hd (by decide))) ?_
                        show W _ _ _ _ _ _ _ _ _ _ _ _ _ _ _ (F0 mX 484 ls [.int (nI (if msg σ d then 1 else 0))])
                        refine ti (show (nI (if msg σ d then 1 else 0)) = (nI 1) from (congrArg nI (if_pos hm9))) ?_
                        refine lv_iconst (v := (nI 1)) hx hb dL_found_484 (by decide) ?_
                        refine lv_icmp_ne (tgt := 506) hx hb dL_found_485 (by decide) (fun c_485 => absurd rfl c_485) (fun _ => ?_)
                        refine lv_aload_n hx hb dL_found_488 rfl (lv_at hl 4 rfl) ?_
                        refine lv_iconst (v := (nI 5)) hx hb dL_found_489 (by decide) ?_
                        refine lv_iload hx hb dL_found_490 (lv_at hl 9 rfl) ?_
                        refine lv_iconst (v := (nI 0)) hx hb dL_found_492 (by decide) ?_
                        refine lv_iconst (v := (nI 0)) hx hb dL_found_493 (by decide) ?_
                        obtain ⟨hP, hD⟩ := sw_PD (L := []) (M := (fQ cy x a tr s0 s1 pa q σ (((hiN (hiN n)) - 1) - 1) fl tx ln)) (T := (fQ cy x1 a1 t1 u1 v1 p1 r σ (((hiN (hiN n)) - 1) - 1) fl tx ln)) hP hD
                        refine wr_callS (pre := (fQ cy x1 a1 t1 u1 v1 p1 r σ (((hiN (hiN n)) - 1) - 1) fl tx ln)) (wc := fQ cy x a tr s0 s1 pa q σ (((hiN (hiN n)) - 1) - 1) fl tx ln) (va_runS (As := [.ref (x 0), .int (nI 5), .int (nI ((v / 48) % 8)), .int (nI 0), .int (nI 0)]) (rest := []) ⟨hx, hb, hml, hown, hts⟩ (c_L_call_5 l hfl g cy x a tr s0 s1 pa H.size bd q σ (hiH (hiH Hh n σ) (hiN n) (findS σ d ((v / 6) % 8) ((v / 384) % 12))) (((hiN (hiN n)) - 1) - 1) K fl tx ln (nI ((v / 48) % 8)) (nI 0) (nI 0) hI ) ⟨(cB 5 hts wd9_11 wd5_14 wd9_9 rfl rfl (by decide +kernel) ⟨Nat.le_of_ble_eq_true rfl, Nat.le_of_ble_eq_true rfl⟩), hts _ wd9_10⟩ (ps2 (ws := (fQ cy x1 a1 t1 u1 v1 p1 r σ (((hiN (hiN n)) - 1) - 1) fl tx ln) ++ fQ cy x a tr s0 s1 pa q σ (((hiN (hiN n)) - 1) - 1) fl tx ln) hK hP hD hS hA hX hY _ nd_suffix at_suffix) rfl rfl hl.1 rfl (lv_room (Nat.le_of_ble_eq_true rfl)) dL_found_494 ⟨by show _ ≤ 60; omega, by show _ ≤ 360; omega⟩) hP hD hS hA (fun _ => fQ_ad) (fun q H locs hI hP hD hS => ?_)
                        obtain ⟨hP, hD⟩ := sw_PD (L := []) (M := (fQ cy x1 a1 t1 u1 v1 p1 r σ (((hiN (hiN n)) - 1) - 1) fl tx ln)) (T := (fQ cy x a tr s0 s1 pa q σ (((hiN (hiN n)) - 1) - 1) fl tx ln)) hP hD
                        have hP : va_P g vwCl (fQ cy x a tr s0 s1 pa q σ (((hiN (hiN n)) - 1) - 1) fl tx ln ++ fQ cy x1 a1 t1 u1 v1 p1 r σ (((hiN (hiN n)) - 1) - 1) fl tx ln) H := hP
                        have hD : va_D A (fQ cy x a tr s0 s1 pa q σ (((hiN (hiN n)) - 1) - 1) fl tx ln ++ fQ cy x1 a1 t1 u1 v1 p1 r σ (((hiN (hiN n)) - 1) - 1) fl tx ln) := hD
                        refine ti (show an (fPur (nI ((v / 48) % 8))) (nI (σ (8 + (nI ((v / 48) % 8)).toNatClampNeg))) = (nI (σ (8 + ((v / 48) % 8)))) from (v_pu (by omega))) ?_
                        show W _ _ _ _ _ _ _ _ _ _ _ _ _ _ _ (F0 mX 497 ls [.int (nI (σ (8 + ((v / 48) % 8))))])
                        refine lv_iload hx hb dL_found_497 (lv_at hl 13 rfl) ?_
                        refine lv_icmp_ne (tgt := 506) hx hb dL_found_499 (by decide) (fun c_499 => absurd rfl c_499) (fun _ => ?_)
                        refine lv_iconst (v := (nI 1)) hx hb dL_found_502 (by decide) ?_
                        refine lv_goto (tgt := 507) hx hb dL_found_503 (by decide) ?_
                        exact W.widen (by omega) (by omega) (wr_z (b := true) (q, r, (hiH (hiH Hh n σ) (hiN n) (findS σ d ((v / 6) % 8) ((v / 384) % 12))), (((hiN (hiN n)) - 1) - 1)) rfl rfl ⟨hI, hJ, INV_back2 hV hn14⟩ hP hS hx hb hr dL_found_507 hlk)
      · have c_130 := (nc_nle (by omega) (by omega) c_130)
        refine lv_iload hx hb dL_found_133 (lv_at hl 13 rfl) ?_
        refine lv_aload_n hx hb dL_found_135 rfl (lv_at hl 0 rfl) ?_
        refine lv_iload_n hx hb dL_found_136 rfl (lv_at hl 3 rfl) ?_
        refine lv_iload hx hb dL_found_137 (lv_at hl 4 rfl) ?_
        refine lv_iload hx hb dL_found_139 (lv_at hl 6 rfl) ?_
        refine lv_iload hx hb dL_found_141 (lv_at hl 14 rfl) ?_
        obtain ⟨hP, hD⟩ := sw_PD (L := []) (M := (fQ cy x a tr s0 s1 pa q σ n fl tx ln)) (T := (fQ cy x1 a1 t1 u1 v1 p1 r σ n fl tx ln)) hP hD
        refine wr_callS (pre := (fQ cy x1 a1 t1 u1 v1 p1 r σ n fl tx ln)) (wc := fQ cy x a tr s0 s1 pa q σ n fl tx ln) (vx_runSW (hh := [(0, 9, 10, 13), (0, 9, 15, 19)]) (As := [.ref (x 0), .int (nI d), .int (nI ((v / 6) % 8)), .int (nI ((v / 384) % 12)), .int (nI f)]) (rest := [.int (nI (sm (shr σ d ((v / 6) % 8) ((v / 384) % 12)) f))]) ⟨hx, hb, hml, hown, hts⟩ (c_L_ifs l hfl g cy x a tr s0 s1 pa H.size bd q σ Hh n K fl tx ln (nI d) (nI ((v / 6) % 8)) (nI ((v / 384) % 12)) (nI f) hI ) (vx_cwSW 5 hts (hl_in wd26_13 wd5_14 wd26_11 wd26_12) rfl rfl rfl (by decide +kernel) ⟨Nat.le_of_ble_eq_true rfl, Nat.le_of_ble_eq_true rfl⟩) (ps2 (ws := (fQ cy x1 a1 t1 u1 v1 p1 r σ n fl tx ln) ++ fQ cy x a tr s0 s1 pa q σ n fl tx ln) hK hP hD hS hA hX hY _ nd_suffix at_suffix) rfl rfl hl.1 rfl (lv_room (Nat.le_of_ble_eq_true rfl)) dL_found_143 ⟨by show _ ≤ 60; omega, by show _ ≤ 360; omega⟩) hP hD hS hA (fun _ => fQ_ad) (fun q H locs hI hP hD hS => ?_)
        obtain ⟨hP, hD⟩ := sw_PD (L := []) (M := (fQ cy x1 a1 t1 u1 v1 p1 r σ n fl tx ln)) (T := (fQ cy x a tr s0 s1 pa q σ n fl tx ln)) hP hD
        have hP : va_P g vwCl (fQ cy x a tr s0 s1 pa q σ n fl tx ln ++ fQ cy x1 a1 t1 u1 v1 p1 r σ n fl tx ln) H := hP
        have hD : va_D A (fQ cy x a tr s0 s1 pa q σ n fl tx ln ++ fQ cy x1 a1 t1 u1 v1 p1 r σ n fl tx ln) := hD
        refine ti (show an (fIff σ (nI d) (nI ((v / 6) % 8)) (nI ((v / 384) % 12)) (nI f)) (nI (shr σ (nI d).toNatClampNeg (nI ((v / 6) % 8)).toNatClampNeg (nI ((v / 384) % 12)).toNatClampNeg (nI f).toNatClampNeg)) = (nI (shr σ d ((v / 6) % 8) ((v / 384) % 12) f)) from (v_if hn0 hd hm9 (by omega) (by omega) (by omega))) ?_
        show W _ _ _ _ _ _ _ _ _ _ _ _ _ _ _ (F0 mX 146 ls [.int (nI (shr σ d ((v / 6) % 8) ((v / 384) % 12) f)), .int (nI (sm (shr σ d ((v / 6) % 8) ((v / 384) % 12)) f))])
        refine lv_iadd hx hb dL_found_146 ?_
        refine ti (nI_add (sm (shr σ d ((v / 6) % 8) ((v / 384) % 12)) f) (shr σ d ((v / 6) % 8) ((v / 384) % 12) f)) ?_
        refine lv_istore (lv' := [(13, .int (nI ((sm (shr σ d ((v / 6) % 8) ((v / 384) % 12)) f) + (shr σ d ((v / 6) % 8) ((v / 384) % 12) f)))), (0, .ref (x 0)), (1, .ref (x1 0)), (2, .int (nI v)), (3, .int (nI d)), (4, .int (nI ((v / 6) % 8))), (5, .int (nI ((v / 48) % 8))), (6, .int (nI ((v / 384) % 12))), (7, .int (nI (shr σ d ((v / 6) % 8) ((v / 384) % 12) ((v / 48) % 8)))), (8, .int (nI (shr σ d ((v / 6) % 8) ((v / 384) % 12) ((v / 6) % 8)))), (9, .int (nI (σ (8 + ((v / 48) % 8))))), (10, .int (nI (σ 4))), (11, .int (nI (σ 5))), (12, .int (nI (dg σ d 4))), (14, .int (nI f))]) hx hb dL_found_147 hl (by decide) rfl (fun ls hl => ?_)
        have hl : lv_has ls 18 [(13, .int (nI (sm (shr σ d ((v / 6) % 8) ((v / 384) % 12)) (f + 1)))), (0, .ref (x 0)), (1, .ref (x1 0)), (2, .int (nI v)), (3, .int (nI d)), (4, .int (nI ((v / 6) % 8))), (5, .int (nI ((v / 48) % 8))), (6, .int (nI ((v / 384) % 12))), (7, .int (nI (shr σ d ((v / 6) % 8) ((v / 384) % 12) ((v / 48) % 8)))), (8, .int (nI (shr σ d ((v / 6) % 8) ((v / 384) % 12) ((v / 6) % 8)))), (9, .int (nI (σ (8 + ((v / 48) % 8))))), (10, .int (nI (σ 4))), (11, .int (nI (σ 5))), (12, .int (nI (dg σ d 4))), (14, .int (nI f))] := by rw [← show (nI ((sm (shr σ d ((v / 6) % 8) ((v / 384) % 12)) f) + (shr σ d ((v / 6) % 8) ((v / 384) % 12) f))) = (nI (sm (shr σ d ((v / 6) % 8) ((v / 384) % 12)) (f + 1))) from rfl]; exact hl
        refine lv_iinc (v := (nI (f + 1))) (lv' := [(14, .int (nI (f + 1))), (13, .int (nI (sm (shr σ d ((v / 6) % 8) ((v / 384) % 12)) (f + 1)))), (0, .ref (x 0)), (1, .ref (x1 0)), (2, .int (nI v)), (3, .int (nI d)), (4, .int (nI ((v / 6) % 8))), (5, .int (nI ((v / 48) % 8))), (6, .int (nI ((v / 384) % 12))), (7, .int (nI (shr σ d ((v / 6) % 8) ((v / 384) % 12) ((v / 48) % 8)))), (8, .int (nI (shr σ d ((v / 6) % 8) ((v / 384) % 12) ((v / 6) % 8)))), (9, .int (nI (σ (8 + ((v / 48) % 8))))), (10, .int (nI (σ 4))), (11, .int (nI (σ 5))), (12, .int (nI (dg σ d 4)))]) hx hb dL_found_149 hl (k := 14) rfl (nI_add f 1) (by decide) rfl (fun ls hl => ?_)
        refine lv_goto (tgt := 126) hx hb dL_found_152 (by decide) ?_
        refine W.widen (k := 10 + (f + 1)) (n := 6 * (10 + (f + 1))) (by omega) (by omega) ?_
        exact ih126 (f + 1, q, r) H locs ls ⟨hP, hD, hS, hI, hJ, lv_sub hl [2, 3, 4, 5, 6, 7, 8, 9, 10, 11, 12, 13, 14, 1, 0] rfl, (by omega)⟩ (by dsimp only; omega)
    · have c_19 := (nz_eq c_19 (by omega))
      omega
  · skip
    refine ti (show (nI (if msg σ d then 1 else 0)) = (nI 0) from (by rw [if_neg hm9])) ?_
    refine lv_if_ne (tgt := 24) hx hb dL_found_19 (by decide) (fun c_19 => ?_) (fun c_19 => ?_)
    · have c_19 := (nz_ne c_19 (by omega))
      omega
    · have c_19 := (nz_eq c_19 (by omega))
      refine lv_iconst (v := (nI 1)) hx hb dL_found_22 (by decide) ?_
      exact W.widen (by omega) (by omega) (wr_z (b := true) (q, r, Hh, n) rfl rfl ⟨hI, hJ, hV⟩ hP hS hx hb hr dL_found_23 hlk)
